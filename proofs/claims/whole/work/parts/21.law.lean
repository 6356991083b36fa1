/-! ===== the law's loop, decompiled ===== -/
theorem g_scr {d : Nat} {sc : zSc} {hp : zHp} {cd : zCd} {pc : Nat} {L : List (Option Value)} {S : List Value} {M : zMem} {r : Option Value × zMem} {j : Int32} (hl : zlk cd.2.2.2 pc = some (.iaload, 1)) (h13 : cd.1 = 13) (hi : zib j sc.1 = true) (kk : zG d sc hp cd (pc + 1) L (.int (sc.2 (ix j)) :: S) M r) : zG d sc hp cd pc L (.int j :: .float 0 :: S) M r := by
  refine g_st hl rfl rfl (pc' := pc + 1) (L' := L) (S' := .int (sc.2 (ix j)) :: S) (M' := M) ?_ kk
  have h : ¬ (zout j sc.1 = true) := by
    have := of_decide_eq_true hi
    unfold zout
    simpa using this
  show (if (0 : UInt32) = 0 ∧ cd.1 = 13 then (if zout j sc.1 then none else some (pc + 1, L, .int (sc.2 j.toNatClampNeg) :: S, M)) else if (0 : UInt32) = 1 then (if zout j 48 then none else some (pc + 1, L, .int (zitem j.toNatClampNeg) :: S, M)) else none : Option zSt) = _
  rw [if_pos ⟨rfl, h13⟩, if_neg h]
/-- the cells and slots of a thrown NoSuchElementException -/
def zXc : Nat × Nat := (1, 6)
def gbump (g : zSg) : zSg := ((g.1.1 + zXc.1, g.1.2 + zXc.2), g.2)
def f_L_person (p w : Int32) (g : zSg) : Option (Int32 × zSg) := zB (f_X0_hasPerson 3 p g) (fun v g1 => if v = 0 ∨ w < 0 ∨ 2 < w then some (1, gbump g1) else zB (f_X11_person p w g1) (fun v g2 => some (0, gsJ g2 553 0 v.toInt64)))
def zHok (hp : zHp) : Prop := ∀ (p w : Int32) (g : zSg) (rest : List Value) (r : Int32 × zSg), f_L_person p w g = some r → zcat rest ≤ 8 → hp (.ref 553 :: .int w :: .int p :: .ref 0 :: rest) (gm g) = some (.int r.1 :: rest, gm r.2)
theorem g_hook {d : Nat} {sc : zSc} {hp : zHp} {cd : zCd} {pc pc' : Nat} {L : List (Option Value)} {S S' S1 : List Value} {M M' : zMem} {r : Option Value × zMem} {idx d' : Nat} (hl : zlk cd.2.2.2 pc = some (.invokestatic idx, 3)) (he : zcalle cd.1 idx 0 = none) (hx : zX cd.1 idx = some 1009) (hh : hp S M = some (S1, M')) (hd' : 16 ≤ d') (hd : d = d' + 1) (hpc : pc + 3 = pc') (hS : S1 = S') (k : zG d sc hp cd pc' L S' M' r) : zG d sc hp cd pc L S M r := by
  subst hd; subst hpc; subst hS
  obtain ⟨N2, h2⟩ := k
  refine ⟨N2 + 1, ?_⟩
  rw [zex_eq hl rfl]
  have h3 : zinv d' (fun c L M => zex N2 d' sc hp c 0 L [] M) hp cd.1 0 idx S M = some (S1, M') := by
    unfold zinv
    rw [he, hx]
    simp only
    rw [if_pos trivial, if_pos ⟨trivial, hd'⟩, hh]
  show (match zinv d' (fun c L M => zex N2 d' sc hp c 0 L [] M) hp cd.1 0 idx S M with | some (S', M') => zex N2 (d' + 1) sc hp cd (pc + 3) L S' M' | none => none) = some r
  rw [h3]
  exact h2
def f_L_law_1566 (sc : zSc) (k23 : Int32 → zSg → Option (Int32 × zSg)) (y4 : Int32) (g : zSg) : Option (Int32 × zSg) := k23 (y4 + 6) g
set_option maxRecDepth 100000 in
set_option maxHeartbeats 4000000 in
theorem p_L_law_1566 {hp : zHp} {d : Nat} (hD : 201 ≤ d) (sc : zSc) (hH : zHok hp) (k23 : Int32 → zSg → Option (Int32 × zSg)) (hk23 : ∀ (y4 : Int32) (g : zSg) (r : Int32 × zSg), k23 y4 g = some r → zG d sc hp zcdL 23 [some (.float 0), some (.ref 0), some (.ref 526), some (.ref 553), some (.int y4), none, none] [] (gm g) ((some (.int r.1)), gm r.2)) (y4 : Int32) (g : zSg) (r : Int32 × zSg) (h : f_L_law_1566 sc k23 y4 g = some r) : zG d sc hp zcdL 1566 [some (.float 0), some (.ref 0), some (.ref 526), some (.ref 553), some (.int y4), none, none] [] (gm g) ((some (.int r.1)), gm r.2) := by
  obtain ⟨d, rfl⟩ : ∃ d', d = d' + 1 := ⟨d - 1, by omega⟩
  unfold f_L_law_1566 at h
  refine g_run 2 (pc' := 23) (L' := [some (.float 0), some (.ref 0), some (.ref 526), some (.ref 553), some (.int ((y4 + 6))), none, none]) (S' := []) (M' := gm g) rfl ?_
  exact hk23 (y4 + 6) g _ h
def f_L_law_450 (sc : zSc) (k23 : Int32 → zSg → Option (Int32 × zSg)) (y4 : Int32) (g : zSg) : Option (Int32 × zSg) := f_L_law_1566 sc k23 (y4) g
set_option maxRecDepth 100000 in
set_option maxHeartbeats 4000000 in
theorem p_L_law_450 {hp : zHp} {d : Nat} (hD : 201 ≤ d) (sc : zSc) (hH : zHok hp) (k23 : Int32 → zSg → Option (Int32 × zSg)) (hk23 : ∀ (y4 : Int32) (g : zSg) (r : Int32 × zSg), k23 y4 g = some r → zG d sc hp zcdL 23 [some (.float 0), some (.ref 0), some (.ref 526), some (.ref 553), some (.int y4), none, none] [] (gm g) ((some (.int r.1)), gm r.2)) (y4 : Int32) (g : zSg) (r : Int32 × zSg) (h : f_L_law_450 sc k23 y4 g = some r) : zG d sc hp zcdL 450 [some (.float 0), some (.ref 0), some (.ref 526), some (.ref 553), some (.int y4), none, none] [] (gm g) ((some (.int r.1)), gm r.2) := by
  obtain ⟨d, rfl⟩ : ∃ d', d = d' + 1 := ⟨d - 1, by omega⟩
  unfold f_L_law_450 at h
  refine g_run 1 (pc' := 1566) (L' := [some (.float 0), some (.ref 0), some (.ref 526), some (.ref 553), some (.int y4), none, none]) (S' := []) (M' := gm g) rfl ?_
  exact p_L_law_1566 hD sc hH k23 hk23 (y4) g _ h
def f_L_law_1138 (sc : zSc) (k23 : Int32 → zSg → Option (Int32 × zSg)) (y4 : Int32) (s0 : Int32) (s1 : Int32) (s2 : Int32) (s4 : Int32) (g : zSg) : Option (Int32 × zSg) := (zB (f_X12_noted s2 s1 s0 g) (fun v1 g2 => (if s4 = v1 then f_L_law_1566 sc k23 (y4) g2 else some (0, g2))))
set_option maxRecDepth 100000 in
set_option maxHeartbeats 4000000 in
theorem p_L_law_1138 {hp : zHp} {d : Nat} (hD : 201 ≤ d) (sc : zSc) (hH : zHok hp) (k23 : Int32 → zSg → Option (Int32 × zSg)) (hk23 : ∀ (y4 : Int32) (g : zSg) (r : Int32 × zSg), k23 y4 g = some r → zG d sc hp zcdL 23 [some (.float 0), some (.ref 0), some (.ref 526), some (.ref 553), some (.int y4), none, none] [] (gm g) ((some (.int r.1)), gm r.2)) (y4 : Int32) (s0 : Int32) (s1 : Int32) (s2 : Int32) (s4 : Int32) (g : zSg) (r : Int32 × zSg) (h : f_L_law_1138 sc k23 y4 s0 s1 s2 s4 g = some r) : zG d sc hp zcdL 1138 [some (.float 0), some (.ref 0), some (.ref 526), some (.ref 553), some (.int y4), none, none] [.int s0, .int s1, .int s2, .ref 526, .int s4] (gm g) ((some (.int r.1)), gm r.2) := by
  obtain ⟨d, rfl⟩ : ∃ d', d = d' + 1 := ⟨d - 1, by omega⟩
  unfold f_L_law_1138 at h
  replace h := zB_of h
  obtain ⟨v1, g2, e3, h⟩ := h
  refine g_inv2 (kd := 1) (p_X12_noted  e3) rfl rfl rfl (by decide) rfl rfl rfl rfl (by omega) (pc' := 1141) rfl (S' := [.int v1, .int s4]) rfl ?_
  refine g_icmp (s4 = v1) rfl (t := 1566) rfl rfl (fun c4 => ?_) (fun c4 => ?_)
  · replace h := (if_pos c4).symm.trans h
    exact p_L_law_1566 hD sc hH k23 hk23 (y4) g2 _ h
  · replace h := (if_neg c4).symm.trans h
    refine g_run 1 (pc' := 1145) (L' := [some (.float 0), some (.ref 0), some (.ref 526), some (.ref 553), some (.int y4), none, none]) (S' := [.int 0]) (M' := gm g2) rfl ?_
    cases h
    exact g_ret rfl rfl rfl rfl
def f_L_law_1108 (sc : zSc) (k23 : Int32 → zSg → Option (Int32 × zSg)) (y4 : Int32) (s0 : Int32) (s1 : Int32) (s2 : Int32) (g : zSg) : Option (Int32 × zSg) := (zB (f_X11_noted s2 s1 s0 g) (fun v1 g2 => (if zib (y4 + 1) sc.1 = true then (if zib (y4 + 2) sc.1 = true then (if zib (y4 + 3) sc.1 = true then (if (sc.2 (ix (y4 + 3))) = 0 then f_L_law_1138 sc k23 (y4) (0) (sc.2 (ix (y4 + 2))) (sc.2 (ix (y4 + 1))) (v1) g2 else f_L_law_1138 sc k23 (y4) (1) (sc.2 (ix (y4 + 2))) (sc.2 (ix (y4 + 1))) (v1) g2) else none) else none) else none)))
set_option maxRecDepth 100000 in
set_option maxHeartbeats 4000000 in
theorem p_L_law_1108 {hp : zHp} {d : Nat} (hD : 201 ≤ d) (sc : zSc) (hH : zHok hp) (k23 : Int32 → zSg → Option (Int32 × zSg)) (hk23 : ∀ (y4 : Int32) (g : zSg) (r : Int32 × zSg), k23 y4 g = some r → zG d sc hp zcdL 23 [some (.float 0), some (.ref 0), some (.ref 526), some (.ref 553), some (.int y4), none, none] [] (gm g) ((some (.int r.1)), gm r.2)) (y4 : Int32) (s0 : Int32) (s1 : Int32) (s2 : Int32) (g : zSg) (r : Int32 × zSg) (h : f_L_law_1108 sc k23 y4 s0 s1 s2 g = some r) : zG d sc hp zcdL 1108 [some (.float 0), some (.ref 0), some (.ref 526), some (.ref 553), some (.int y4), none, none] [.int s0, .int s1, .int s2, .ref 0] (gm g) ((some (.int r.1)), gm r.2) := by
  obtain ⟨d, rfl⟩ : ∃ d', d = d' + 1 := ⟨d - 1, by omega⟩
  unfold f_L_law_1108 at h
  replace h := zB_of h
  obtain ⟨v1, g2, e3, h⟩ := h
  refine g_inv2 (kd := 1) (p_X11_noted  e3) rfl rfl rfl (by decide) rfl rfl rfl rfl (by omega) (pc' := 1111) rfl (S' := [.int v1]) rfl ?_
  refine g_run 5 (pc' := 1117) (L' := [some (.float 0), some (.ref 0), some (.ref 526), some (.ref 553), some (.int y4), none, none]) (S' := [.int ((y4 + 1)), .float 0, .ref 526, .int v1]) (M' := gm g2) rfl ?_
  by_cases c4 : zib (y4 + 1) sc.1 = true
  case neg => exact nomatch ((if_neg c4).symm.trans h)
  replace h := (if_pos c4).symm.trans h
  refine g_scr rfl rfl c4 ?_
  refine g_run 4 (pc' := 1123) (L' := [some (.float 0), some (.ref 0), some (.ref 526), some (.ref 553), some (.int y4), none, none]) (S' := [.int ((y4 + 2)), .float 0, .int ((sc.2 (ix (y4 + 1)))), .ref 526, .int v1]) (M' := gm g2) rfl ?_
  by_cases c5 : zib (y4 + 2) sc.1 = true
  case neg => exact nomatch ((if_neg c5).symm.trans h)
  replace h := (if_pos c5).symm.trans h
  refine g_scr rfl rfl c5 ?_
  refine g_run 4 (pc' := 1129) (L' := [some (.float 0), some (.ref 0), some (.ref 526), some (.ref 553), some (.int y4), none, none]) (S' := [.int ((y4 + 3)), .float 0, .int ((sc.2 (ix (y4 + 2)))), .int ((sc.2 (ix (y4 + 1)))), .ref 526, .int v1]) (M' := gm g2) rfl ?_
  by_cases c6 : zib (y4 + 3) sc.1 = true
  case neg => exact nomatch ((if_neg c6).symm.trans h)
  replace h := (if_pos c6).symm.trans h
  refine g_scr rfl rfl c6 ?_
  refine g_if ((sc.2 (ix (y4 + 3))) = 0) rfl (t := 1137) rfl rfl (fun c7 => ?_) (fun c7 => ?_)
  · replace h := (if_pos c7).symm.trans h
    refine g_run 1 (pc' := 1138) (L' := [some (.float 0), some (.ref 0), some (.ref 526), some (.ref 553), some (.int y4), none, none]) (S' := [.int 0, .int ((sc.2 (ix (y4 + 2)))), .int ((sc.2 (ix (y4 + 1)))), .ref 526, .int v1]) (M' := gm g2) rfl ?_
    exact p_L_law_1138 hD sc hH k23 hk23 (y4) (0) (sc.2 (ix (y4 + 2))) (sc.2 (ix (y4 + 1))) (v1) g2 _ h
  · replace h := (if_neg c7).symm.trans h
    refine g_run 2 (pc' := 1138) (L' := [some (.float 0), some (.ref 0), some (.ref 526), some (.ref 553), some (.int y4), none, none]) (S' := [.int 1, .int ((sc.2 (ix (y4 + 2)))), .int ((sc.2 (ix (y4 + 1)))), .ref 526, .int v1]) (M' := gm g2) rfl ?_
    exact p_L_law_1138 hD sc hH k23 hk23 (y4) (1) (sc.2 (ix (y4 + 2))) (sc.2 (ix (y4 + 1))) (v1) g2 _ h
def fb_L_law_23 (sc : zSc) (kk : Int32 → zSg → Option (Int32 × zSg)) (y4 : Int32) (g : zSg) : Option (Int32 × zSg) := (if ((Int32.ofNat sc.1) - 6) < y4 then some (1, g) else (if zib y4 sc.1 = true then (if ((sc.2 (ix y4)) &&& 63) = 0 then (if zib (y4 + 1) sc.1 = true then (if zib (y4 + 2) sc.1 = true then (if zib (y4 + 3) sc.1 = true then (if zib (y4 + 4) sc.1 = true then (if zib (y4 + 5) sc.1 = true then (zB (f_X11_feed (sc.2 (ix (y4 + 1))) (sc.2 (ix (y4 + 2))) (sc.2 (ix (y4 + 3))) (sc.2 (ix (y4 + 4))) (sc.2 (ix (y4 + 5))) g) (fun v9 g10 => (if zib (y4 + 1) sc.1 = true then (if zib (y4 + 2) sc.1 = true then (if zib (y4 + 3) sc.1 = true then (if zib (y4 + 4) sc.1 = true then (if zib (y4 + 5) sc.1 = true then (zB (f_X12_feed (sc.2 (ix (y4 + 1))) (sc.2 (ix (y4 + 2))) (sc.2 (ix (y4 + 3))) (sc.2 (ix (y4 + 4))) (sc.2 (ix (y4 + 5))) g10) (fun v17 g18 => (if v9 = v17 then f_L_law_1566 sc kk (y4) g18 else some (0, g18)))) else none) else none) else none) else none) else none))) else none) else none) else none) else none) else none) else (if ((sc.2 (ix y4)) &&& 63) = 1 then (if zib (y4 + 1) sc.1 = true then (zB (f_X11_end (sc.2 (ix (y4 + 1))) g) (fun v23 g24 => (if zib (y4 + 1) sc.1 = true then (zB (f_X12_end (sc.2 (ix (y4 + 1))) g24) (fun v27 g28 => (if v23 = v27 then f_L_law_1566 sc kk (y4) g28 else some (0, g28)))) else none))) else none) else (if ((sc.2 (ix y4)) &&& 63) = 2 then (if zib (y4 + 1) sc.1 = true then (zB (f_X11_fault (sc.2 (ix (y4 + 1))) g) (fun v33 g34 => (if zib (y4 + 1) sc.1 = true then (zB (f_X12_fault (sc.2 (ix (y4 + 1))) g34) (fun v37 g38 => (if v33 = v37 then f_L_law_1566 sc kk (y4) g38 else some (0, g38)))) else none))) else none) else (if ((sc.2 (ix y4)) &&& 63) = 3 then (if zib (y4 + 1) sc.1 = true then (zB (f_X11_text (sc.2 (ix (y4 + 1))) g) (fun v43 g44 => (if zib (y4 + 1) sc.1 = true then (zB (f_X12_text (sc.2 (ix (y4 + 1))) g44) (fun v47 g48 => (if v43 = v47 then f_L_law_1566 sc kk (y4) g48 else some (0, g48)))) else none))) else none) else (if ((sc.2 (ix y4)) &&& 63) = 4 then (if zib (y4 + 1) sc.1 = true then (zB (f_X11_rule (sc.2 (ix (y4 + 1))) g) (fun v53 g54 => (if zib (y4 + 1) sc.1 = true then (zB (f_X12_rule (sc.2 (ix (y4 + 1))) g54) (fun v57 g58 => (if v53 = v57 then f_L_law_1566 sc kk (y4) g58 else some (0, g58)))) else none))) else none) else (if ((sc.2 (ix y4)) &&& 63) = 5 then (if zib (y4 + 1) sc.1 = true then (if zib (y4 + 2) sc.1 = true then (zB (f_L_person (sc.2 (ix (y4 + 1))) (sc.2 (ix (y4 + 2))) g) (fun v64 g65 => (if zib (y4 + 1) sc.1 = true then (if zib (y4 + 2) sc.1 = true then (zB (f_X12_person (sc.2 (ix (y4 + 1))) (sc.2 (ix (y4 + 2))) g65) (fun v69 g70 => (zB (f_X12_thrown g70) (fun v72 g73 => (if v72 = v64 then (if ¬ v64 = 0 then f_L_law_450 sc kk (y4) g73 else (if (lg_cmp (gJ g73 553 0) (v69).toInt64) = 0 then f_L_law_450 sc kk (y4) g73 else some (0, g73))) else some (0, g73)))))) else none) else none))) else none) else none) else (if ((sc.2 (ix y4)) &&& 63) = 6 then (if zib (y4 + 1) sc.1 = true then (if zib (y4 + 2) sc.1 = true then (zB (f_X11_secret (sc.2 (ix (y4 + 1))) (sc.2 (ix (y4 + 2))) g) (fun v81 g82 => (if zib (y4 + 1) sc.1 = true then (if zib (y4 + 2) sc.1 = true then (zB (f_X12_secret (sc.2 (ix (y4 + 1))) (sc.2 (ix (y4 + 2))) g82) (fun v86 g87 => (if v81 = v86 then f_L_law_1566 sc kk (y4) g87 else some (0, g87)))) else none) else none))) else none) else none) else (if ((sc.2 (ix y4)) &&& 63) = 7 then (if zib (y4 + 1) sc.1 = true then (if zib (y4 + 2) sc.1 = true then (zB (f_X11_breath (sc.2 (ix (y4 + 1))) (sc.2 (ix (y4 + 2))) g) (fun v93 g94 => (if zib (y4 + 1) sc.1 = true then (if zib (y4 + 2) sc.1 = true then (zB (f_X12_breath (sc.2 (ix (y4 + 1))) (sc.2 (ix (y4 + 2))) g94) (fun v98 g99 => (if v93 = v98 then f_L_law_1566 sc kk (y4) g99 else some (0, g99)))) else none) else none))) else none) else none) else (if ((sc.2 (ix y4)) &&& 63) = 8 then (if zib (y4 + 1) sc.1 = true then (zB (f_X11_law (sc.2 (ix (y4 + 1))) g) (fun v104 g105 => (if zib (y4 + 1) sc.1 = true then (zB (f_X12_law (sc.2 (ix (y4 + 1))) g105) (fun v108 g109 => (if v104 = v108 then f_L_law_1566 sc kk (y4) g109 else some (0, g109)))) else none))) else none) else (if ((sc.2 (ix y4)) &&& 63) = 9 then (if zib (y4 + 1) sc.1 = true then (zB (f_X11_nights (sc.2 (ix (y4 + 1))) g) (fun v114 g115 => (if zib (y4 + 1) sc.1 = true then (zB (f_X12_nights (sc.2 (ix (y4 + 1))) g115) (fun v118 g119 => (if v114 = v118 then f_L_law_1566 sc kk (y4) g119 else some (0, g119)))) else none))) else none) else (if ((sc.2 (ix y4)) &&& 63) = 10 then (if zib (y4 + 1) sc.1 = true then (zB (f_X11_hang (sc.2 (ix (y4 + 1))) g) (fun v124 g125 => (if zib (y4 + 1) sc.1 = true then (zB (f_X12_hang (sc.2 (ix (y4 + 1))) g125) (fun v128 g129 => (if v124 = v128 then f_L_law_1566 sc kk (y4) g129 else some (0, g129)))) else none))) else none) else (if ((sc.2 (ix y4)) &&& 63) = 11 then (if zib (y4 + 1) sc.1 = true then (zB (f_X11_veers (sc.2 (ix (y4 + 1))) g) (fun v134 g135 => (if zib (y4 + 1) sc.1 = true then (zB (f_X12_veers (sc.2 (ix (y4 + 1))) g135) (fun v138 g139 => (if v134 = v138 then f_L_law_1566 sc kk (y4) g139 else some (0, g139)))) else none))) else none) else (if ((sc.2 (ix y4)) &&& 63) = 12 then (if zib (y4 + 1) sc.1 = true then (if zib (y4 + 2) sc.1 = true then (zB (f_X11_moves (sc.2 (ix (y4 + 1))) (sc.2 (ix (y4 + 2))) g) (fun v145 g146 => (if zib (y4 + 1) sc.1 = true then (if zib (y4 + 2) sc.1 = true then (zB (f_X12_moves (sc.2 (ix (y4 + 1))) (sc.2 (ix (y4 + 2))) g146) (fun v150 g151 => (if v145 = v150 then f_L_law_1566 sc kk (y4) g151 else some (0, g151)))) else none) else none))) else none) else none) else (if ((sc.2 (ix y4)) &&& 63) = 13 then (if zib (y4 + 1) sc.1 = true then (zB (f_X11_oak (sc.2 (ix (y4 + 1))) g) (fun v156 g157 => (if zib (y4 + 1) sc.1 = true then (zB (f_X12_oak (sc.2 (ix (y4 + 1))) g157) (fun v160 g161 => (if v156 = v160 then f_L_law_1566 sc kk (y4) g161 else some (0, g161)))) else none))) else none) else (if ((sc.2 (ix y4)) &&& 63) = 14 then (if zib (y4 + 1) sc.1 = true then (zB (f_X11_give (sc.2 (ix (y4 + 1))) g) (fun v166 g167 => (if zib (y4 + 1) sc.1 = true then (zB (f_X12_give (sc.2 (ix (y4 + 1))) g167) (fun v170 g171 => (if v166 = v170 then f_L_law_1566 sc kk (y4) g171 else some (0, g171)))) else none))) else none) else (if ((sc.2 (ix y4)) &&& 63) = 15 then (if zib (y4 + 1) sc.1 = true then (zB (f_X11_gusts (sc.2 (ix (y4 + 1))) g) (fun v176 g177 => (if zib (y4 + 1) sc.1 = true then (zB (f_X12_gusts (sc.2 (ix (y4 + 1))) g177) (fun v180 g181 => (if v176 = v180 then f_L_law_1566 sc kk (y4) g181 else some (0, g181)))) else none))) else none) else (if ((sc.2 (ix y4)) &&& 63) = 16 then (if zib (y4 + 1) sc.1 = true then (if zib (y4 + 2) sc.1 = true then (if zib (y4 + 3) sc.1 = true then (zB (f_X11_years (sc.2 (ix (y4 + 1))) ((lshl ((sc.2 (ix (y4 + 2)))).toInt64 32) ||| (((sc.2 (ix (y4 + 3)))).toInt64 &&& 4294967295)) g) (fun v188 g189 => (if zib (y4 + 1) sc.1 = true then (if zib (y4 + 2) sc.1 = true then (if zib (y4 + 3) sc.1 = true then (zB (f_X12_years (sc.2 (ix (y4 + 1))) ((lshl ((sc.2 (ix (y4 + 2)))).toInt64 32) ||| (((sc.2 (ix (y4 + 3)))).toInt64 &&& 4294967295)) g189) (fun v194 g195 => (if v188 = v194 then f_L_law_1566 sc kk (y4) g195 else some (0, g195)))) else none) else none) else none))) else none) else none) else none) else (if ((sc.2 (ix y4)) &&& 63) = 17 then (if zib (y4 + 1) sc.1 = true then (zB (f_X11_status (sc.2 (ix (y4 + 1))) g) (fun v200 g201 => (if zib (y4 + 1) sc.1 = true then (zB (f_X12_status (sc.2 (ix (y4 + 1))) g201) (fun v204 g205 => (if v200 = v204 then f_L_law_1566 sc kk (y4) g205 else some (0, g205)))) else none))) else none) else (if ((sc.2 (ix y4)) &&& 63) = 18 then (zB (f_X11_undo g) (fun v209 g210 => (zB (f_X12_undo g210) (fun v212 g213 => (if v209 = v212 then f_L_law_1566 sc kk (y4) g213 else some (0, g213)))))) else (if ((sc.2 (ix y4)) &&& 63) = 19 then (if zib (y4 + 1) sc.1 = true then (if zib (y4 + 2) sc.1 = true then (zB (f_X11_log (sc.2 (ix (y4 + 1))) (sc.2 (ix (y4 + 2))) g) (fun v219 g220 => (if zib (y4 + 1) sc.1 = true then (if zib (y4 + 2) sc.1 = true then (zB (f_X12_log (sc.2 (ix (y4 + 1))) (sc.2 (ix (y4 + 2))) g220) (fun v224 g225 => (if v219 = v224 then f_L_law_1566 sc kk (y4) g225 else some (0, g225)))) else none) else none))) else none) else none) else (if ((sc.2 (ix y4)) &&& 63) = 20 then (if zib (y4 + 1) sc.1 = true then (if zib (y4 + 2) sc.1 = true then (zB (f_X11_strength (sc.2 (ix (y4 + 1))) (sc.2 (ix (y4 + 2))) g) (fun v231 g232 => (if zib (y4 + 1) sc.1 = true then (if zib (y4 + 2) sc.1 = true then (zB (f_X12_strength (sc.2 (ix (y4 + 1))) (sc.2 (ix (y4 + 2))) g232) (fun v236 g237 => (if v231 = v236 then f_L_law_1566 sc kk (y4) g237 else some (0, g237)))) else none) else none))) else none) else none) else (if ((sc.2 (ix y4)) &&& 63) = 21 then (if zib (y4 + 1) sc.1 = true then (zB (f_X11_smells (sc.2 (ix (y4 + 1))) g) (fun v242 g243 => (if zib (y4 + 1) sc.1 = true then (zB (f_X12_smells (sc.2 (ix (y4 + 1))) g243) (fun v246 g247 => (if v242 = v246 then f_L_law_1566 sc kk (y4) g247 else some (0, g247)))) else none))) else none) else (if ((sc.2 (ix y4)) &&& 63) = 22 then (if zib (y4 + 1) sc.1 = true then (zB (f_X11_air (sc.2 (ix (y4 + 1))) g) (fun v252 g253 => (if zib (y4 + 1) sc.1 = true then (zB (f_X12_air (sc.2 (ix (y4 + 1))) g253) (fun v256 g257 => (if v252 = v256 then f_L_law_1566 sc kk (y4) g257 else some (0, g257)))) else none))) else none) else (if ((sc.2 (ix y4)) &&& 63) = 23 then (if zib (y4 + 1) sc.1 = true then (if zib (y4 + 2) sc.1 = true then (zB (f_X11_soon (sc.2 (ix (y4 + 1))) (sc.2 (ix (y4 + 2))) g) (fun v263 g264 => (if zib (y4 + 1) sc.1 = true then (if zib (y4 + 2) sc.1 = true then (zB (f_X12_soon (sc.2 (ix (y4 + 1))) (sc.2 (ix (y4 + 2))) g264) (fun v268 g269 => (if v263 = v268 then f_L_law_1566 sc kk (y4) g269 else some (0, g269)))) else none) else none))) else none) else none) else (if ((sc.2 (ix y4)) &&& 63) = 24 then (if zib (y4 + 1) sc.1 = true then (zB (f_X11_ready (sc.2 (ix (y4 + 1))) g) (fun v274 g275 => (if zib (y4 + 1) sc.1 = true then (zB (f_X12_ready (sc.2 (ix (y4 + 1))) g275) (fun v278 g279 => (if v274 = v278 then f_L_law_1566 sc kk (y4) g279 else some (0, g279)))) else none))) else none) else (if ((sc.2 (ix y4)) &&& 63) = 25 then (if zib (y4 + 1) sc.1 = true then (if zib (y4 + 2) sc.1 = true then (if zib (y4 + 3) sc.1 = true then (zB (f_X11_kept (sc.2 (ix (y4 + 1))) (sc.2 (ix (y4 + 2))) (sc.2 (ix (y4 + 3))) g) (fun v286 g287 => (if zib (y4 + 1) sc.1 = true then (if zib (y4 + 2) sc.1 = true then (if zib (y4 + 3) sc.1 = true then (zB (f_X12_kept (sc.2 (ix (y4 + 1))) (sc.2 (ix (y4 + 2))) (sc.2 (ix (y4 + 3))) g287) (fun v292 g293 => (if v286 = v292 then f_L_law_1566 sc kk (y4) g293 else some (0, g293)))) else none) else none) else none))) else none) else none) else none) else (if ((sc.2 (ix y4)) &&& 63) = 26 then (if zib (y4 + 1) sc.1 = true then (if zib (y4 + 2) sc.1 = true then (if zib (y4 + 3) sc.1 = true then (if (sc.2 (ix (y4 + 3))) = 0 then f_L_law_1108 sc kk (y4) (0) (sc.2 (ix (y4 + 2))) (sc.2 (ix (y4 + 1))) g else f_L_law_1108 sc kk (y4) (1) (sc.2 (ix (y4 + 2))) (sc.2 (ix (y4 + 1))) g) else none) else none) else none) else (if ((sc.2 (ix y4)) &&& 63) = 27 then (if zib (y4 + 1) sc.1 = true then (if zib (y4 + 2) sc.1 = true then (zB (f_X11_heavies (sc.2 (ix (y4 + 1))) (sc.2 (ix (y4 + 2))) g) (fun v304 g305 => (if zib (y4 + 1) sc.1 = true then (if zib (y4 + 2) sc.1 = true then (zB (f_X12_heavies (sc.2 (ix (y4 + 1))) (sc.2 (ix (y4 + 2))) g305) (fun v309 g310 => (if v304 = v309 then f_L_law_1566 sc kk (y4) g310 else some (0, g310)))) else none) else none))) else none) else none) else (if ((sc.2 (ix y4)) &&& 63) = 28 then (if zib (y4 + 1) sc.1 = true then (zB (f_X11_ask (sc.2 (ix (y4 + 1))) g) (fun v315 g316 => (if zib (y4 + 1) sc.1 = true then (zB (f_X12_ask (sc.2 (ix (y4 + 1))) g316) (fun v319 g320 => (if v315 = v319 then f_L_law_1566 sc kk (y4) g320 else some (0, g320)))) else none))) else none) else (if ((sc.2 (ix y4)) &&& 63) = 29 then (if zib (y4 + 1) sc.1 = true then (zB (f_X11_worthwhile (sc.2 (ix (y4 + 1))) g) (fun v325 g326 => (if zib (y4 + 1) sc.1 = true then (zB (f_X12_worthwhile (sc.2 (ix (y4 + 1))) g326) (fun v329 g330 => (if v325 = v329 then f_L_law_1566 sc kk (y4) g330 else some (0, g330)))) else none))) else none) else (if ((sc.2 (ix y4)) &&& 63) = 30 then (if zib (y4 + 1) sc.1 = true then (if zib (y4 + 2) sc.1 = true then (zB (f_X11_out (sc.2 (ix (y4 + 1))) (sc.2 (ix (y4 + 2))) g) (fun v336 g337 => (if zib (y4 + 1) sc.1 = true then (if zib (y4 + 2) sc.1 = true then (zB (f_X12_out (sc.2 (ix (y4 + 1))) (sc.2 (ix (y4 + 2))) g337) (fun v341 g342 => (if v336 = v341 then f_L_law_1566 sc kk (y4) g342 else some (0, g342)))) else none) else none))) else none) else none) else (if ((sc.2 (ix y4)) &&& 63) = 31 then (if zib (y4 + 1) sc.1 = true then (if zib (y4 + 2) sc.1 = true then (if zib (y4 + 3) sc.1 = true then (if zib (y4 + 4) sc.1 = true then (if zib (y4 + 5) sc.1 = true then (zB (f_X11_game (sc.2 (ix (y4 + 1))) (sc.2 (ix (y4 + 2))) (sc.2 (ix (y4 + 3))) (sc.2 (ix (y4 + 4))) (sc.2 (ix (y4 + 5))) g) (fun v351 g352 => (if zib (y4 + 1) sc.1 = true then (if zib (y4 + 2) sc.1 = true then (if zib (y4 + 3) sc.1 = true then (if zib (y4 + 4) sc.1 = true then (if zib (y4 + 5) sc.1 = true then (zB (f_X12_game (sc.2 (ix (y4 + 1))) (sc.2 (ix (y4 + 2))) (sc.2 (ix (y4 + 3))) (sc.2 (ix (y4 + 4))) (sc.2 (ix (y4 + 5))) g352) (fun v359 g360 => (if v351 = v359 then f_L_law_1566 sc kk (y4) g360 else some (0, g360)))) else none) else none) else none) else none) else none))) else none) else none) else none) else none) else none) else (if ((sc.2 (ix y4)) &&& 63) = 32 then (if zib (y4 + 1) sc.1 = true then (if zib (y4 + 2) sc.1 = true then (if zib (y4 + 3) sc.1 = true then (zB (f_X11_rests (sc.2 (ix (y4 + 1))) (sc.2 (ix (y4 + 2))) (sc.2 (ix (y4 + 3))) g) (fun v367 g368 => (if zib (y4 + 1) sc.1 = true then (if zib (y4 + 2) sc.1 = true then (if zib (y4 + 3) sc.1 = true then (zB (f_X12_rests (sc.2 (ix (y4 + 1))) (sc.2 (ix (y4 + 2))) (sc.2 (ix (y4 + 3))) g368) (fun v373 g374 => (if v367 = v373 then f_L_law_1566 sc kk (y4) g374 else some (0, g374)))) else none) else none) else none))) else none) else none) else none) else (if ((sc.2 (ix y4)) &&& 63) = 33 then (if zib (y4 + 1) sc.1 = true then (if zib (y4 + 2) sc.1 = true then (if zib (y4 + 3) sc.1 = true then (if zib (y4 + 4) sc.1 = true then (zB (f_X11_odds (sc.2 (ix (y4 + 1))) (sc.2 (ix (y4 + 2))) (sc.2 (ix (y4 + 3))) (sc.2 (ix (y4 + 4))) g) (fun v382 g383 => (if zib (y4 + 1) sc.1 = true then (if zib (y4 + 2) sc.1 = true then (if zib (y4 + 3) sc.1 = true then (if zib (y4 + 4) sc.1 = true then (zB (f_X12_odds (sc.2 (ix (y4 + 1))) (sc.2 (ix (y4 + 2))) (sc.2 (ix (y4 + 3))) (sc.2 (ix (y4 + 4))) g383) (fun v389 g390 => (if v382 = v389 then f_L_law_1566 sc kk (y4) g390 else some (0, g390)))) else none) else none) else none) else none))) else none) else none) else none) else none) else (if ((sc.2 (ix y4)) &&& 63) = 34 then (if zib (y4 + 1) sc.1 = true then (if zib (y4 + 2) sc.1 = true then (zB (f_X11_shares (sc.2 (ix (y4 + 1))) (sc.2 (ix (y4 + 2))) g) (fun v396 g397 => (if zib (y4 + 1) sc.1 = true then (if zib (y4 + 2) sc.1 = true then (zB (f_X12_shares (sc.2 (ix (y4 + 1))) (sc.2 (ix (y4 + 2))) g397) (fun v401 g402 => (if v396 = v401 then f_L_law_1566 sc kk (y4) g402 else some (0, g402)))) else none) else none))) else none) else none) else (if ((sc.2 (ix y4)) &&& 63) = 35 then (if zib (y4 + 1) sc.1 = true then (zB (f_X11_most (sc.2 (ix (y4 + 1))) g) (fun v407 g408 => (if zib (y4 + 1) sc.1 = true then (zB (f_X12_most (sc.2 (ix (y4 + 1))) g408) (fun v411 g412 => (if v407 = v411 then f_L_law_1566 sc kk (y4) g412 else some (0, g412)))) else none))) else none) else (if ((sc.2 (ix y4)) &&& 63) = 36 then (zB (f_X11_image g) (fun v416 g417 => (zB (f_X12_image g417) (fun v419 g420 => (if v416 = v419 then f_L_law_1566 sc kk (y4) g420 else some (0, g420)))))) else (if ((sc.2 (ix y4)) &&& 63) = 37 then (zB (f_X11_back g) (fun v424 g425 => (zB (f_X12_back g425) (fun v427 g428 => (if v424 = v427 then f_L_law_1566 sc kk (y4) g428 else some (0, g428)))))) else (if ((sc.2 (ix y4)) &&& 63) = 38 then (if zib (y4 + 1) sc.1 = true then (zB (f_X11_count (sc.2 (ix (y4 + 1))) g) (fun v433 g434 => (if zib (y4 + 1) sc.1 = true then (zB (f_X12_count (sc.2 (ix (y4 + 1))) g434) (fun v437 g438 => (if v433 = v437 then f_L_law_1566 sc kk (y4) g438 else some (0, g438)))) else none))) else none) else f_L_law_1566 sc kk (y4) g))))))))))))))))))))))))))))))))))))))) else none))
def f_L_law_23 (sc : zSc) : Nat → Int32 → zSg → Option (Int32 × zSg)
  | 0, _, _ => none
  | n + 1, y4, g => fb_L_law_23 sc (f_L_law_23 sc n) y4 g
set_option maxRecDepth 100000 in
set_option maxHeartbeats 4000000 in
theorem p_L_law_23 {hp : zHp} {d : Nat} (hD : 201 ≤ d) (sc : zSc) (hH : zHok hp) : ∀ (n : Nat) (y4 : Int32) (g : zSg) (r : Int32 × zSg), f_L_law_23 sc n y4 g = some r → zG d sc hp zcdL 23 [some (.float 0), some (.ref 0), some (.ref 526), some (.ref 553), some (.int y4), none, none] [] (gm g) ((some (.int r.1)), gm r.2) := by
  obtain ⟨d, rfl⟩ : ∃ d', d = d' + 1 := ⟨d - 1, by omega⟩
  intro n
  induction n with
  | zero => intro y4 g r h; cases h
  | succ n ih =>
    intro y4 g r h
    replace h : fb_L_law_23 sc (f_L_law_23 sc n) y4 g = some r := h
    unfold fb_L_law_23 at h
    refine g_run 5 (pc' := 30) (L' := [some (.float 0), some (.ref 0), some (.ref 526), some (.ref 553), some (.int y4), none, none]) (S' := [.int (((Int32.ofNat sc.1) - 6)), .int y4]) (M' := gm g) rfl ?_
    refine g_icmp (((Int32.ofNat sc.1) - 6) < y4) rfl (t := 1572) rfl rfl (fun c1 => ?_) (fun c1 => ?_)
    · replace h := (if_pos c1).symm.trans h
      refine g_run 1 (pc' := 1573) (L' := [some (.float 0), some (.ref 0), some (.ref 526), some (.ref 553), some (.int y4), none, none]) (S' := [.int 1]) (M' := gm g) rfl ?_
      cases h
      exact g_ret rfl rfl rfl rfl
    · replace h := (if_neg c1).symm.trans h
      refine g_run 2 (pc' := 36) (L' := [some (.float 0), some (.ref 0), some (.ref 526), some (.ref 553), some (.int y4), none, none]) (S' := [.int y4, .float 0]) (M' := gm g) rfl ?_
      by_cases c2 : zib y4 sc.1 = true
      case neg => exact nomatch ((if_neg c2).symm.trans h)
      replace h := (if_pos c2).symm.trans h
      refine g_scr rfl rfl c2 ?_
      refine g_run 2 (pc' := 40) (L' := [some (.float 0), some (.ref 0), some (.ref 526), some (.ref 553), some (.int y4), none, none]) (S' := [.int (((sc.2 (ix y4)) &&& 63))]) (M' := gm g) rfl ?_
      by_cases c3 : ((sc.2 (ix y4)) &&& 63) = 0
      · replace h := (if_pos c3).symm.trans h
        refine g_swc c3 rfl rfl rfl (pc' := 212) rfl ?_
        refine g_run 5 (pc' := 218) (L' := [some (.float 0), some (.ref 0), some (.ref 526), some (.ref 553), some (.int y4), none, none]) (S' := [.int ((y4 + 1)), .float 0, .ref 0]) (M' := gm g) rfl ?_
        by_cases c4 : zib (y4 + 1) sc.1 = true
        case neg => exact nomatch ((if_neg c4).symm.trans h)
        replace h := (if_pos c4).symm.trans h
        refine g_scr rfl rfl c4 ?_
        refine g_run 4 (pc' := 224) (L' := [some (.float 0), some (.ref 0), some (.ref 526), some (.ref 553), some (.int y4), none, none]) (S' := [.int ((y4 + 2)), .float 0, .int ((sc.2 (ix (y4 + 1)))), .ref 0]) (M' := gm g) rfl ?_
        by_cases c5 : zib (y4 + 2) sc.1 = true
        case neg => exact nomatch ((if_neg c5).symm.trans h)
        replace h := (if_pos c5).symm.trans h
        refine g_scr rfl rfl c5 ?_
        refine g_run 4 (pc' := 230) (L' := [some (.float 0), some (.ref 0), some (.ref 526), some (.ref 553), some (.int y4), none, none]) (S' := [.int ((y4 + 3)), .float 0, .int ((sc.2 (ix (y4 + 2)))), .int ((sc.2 (ix (y4 + 1)))), .ref 0]) (M' := gm g) rfl ?_
        by_cases c6 : zib (y4 + 3) sc.1 = true
        case neg => exact nomatch ((if_neg c6).symm.trans h)
        replace h := (if_pos c6).symm.trans h
        refine g_scr rfl rfl c6 ?_
        refine g_run 4 (pc' := 236) (L' := [some (.float 0), some (.ref 0), some (.ref 526), some (.ref 553), some (.int y4), none, none]) (S' := [.int ((y4 + 4)), .float 0, .int ((sc.2 (ix (y4 + 3)))), .int ((sc.2 (ix (y4 + 2)))), .int ((sc.2 (ix (y4 + 1)))), .ref 0]) (M' := gm g) rfl ?_
        by_cases c7 : zib (y4 + 4) sc.1 = true
        case neg => exact nomatch ((if_neg c7).symm.trans h)
        replace h := (if_pos c7).symm.trans h
        refine g_scr rfl rfl c7 ?_
        refine g_run 4 (pc' := 242) (L' := [some (.float 0), some (.ref 0), some (.ref 526), some (.ref 553), some (.int y4), none, none]) (S' := [.int ((y4 + 5)), .float 0, .int ((sc.2 (ix (y4 + 4)))), .int ((sc.2 (ix (y4 + 3)))), .int ((sc.2 (ix (y4 + 2)))), .int ((sc.2 (ix (y4 + 1)))), .ref 0]) (M' := gm g) rfl ?_
        by_cases c8 : zib (y4 + 5) sc.1 = true
        case neg => exact nomatch ((if_neg c8).symm.trans h)
        replace h := (if_pos c8).symm.trans h
        refine g_scr rfl rfl c8 ?_
        replace h := zB_of h
        obtain ⟨v9, g10, e11, h⟩ := h
        refine g_inv2 (kd := 1) (p_X11_feed  e11) rfl rfl rfl (by decide) rfl rfl rfl rfl (by omega) (pc' := 246) rfl (S' := [.int v9]) rfl ?_
        refine g_run 5 (pc' := 252) (L' := [some (.float 0), some (.ref 0), some (.ref 526), some (.ref 553), some (.int y4), none, none]) (S' := [.int ((y4 + 1)), .float 0, .ref 526, .int v9]) (M' := gm g10) rfl ?_
        by_cases c12 : zib (y4 + 1) sc.1 = true
        case neg => exact nomatch ((if_neg c12).symm.trans h)
        replace h := (if_pos c12).symm.trans h
        refine g_scr rfl rfl c12 ?_
        refine g_run 4 (pc' := 258) (L' := [some (.float 0), some (.ref 0), some (.ref 526), some (.ref 553), some (.int y4), none, none]) (S' := [.int ((y4 + 2)), .float 0, .int ((sc.2 (ix (y4 + 1)))), .ref 526, .int v9]) (M' := gm g10) rfl ?_
        by_cases c13 : zib (y4 + 2) sc.1 = true
        case neg => exact nomatch ((if_neg c13).symm.trans h)
        replace h := (if_pos c13).symm.trans h
        refine g_scr rfl rfl c13 ?_
        refine g_run 4 (pc' := 264) (L' := [some (.float 0), some (.ref 0), some (.ref 526), some (.ref 553), some (.int y4), none, none]) (S' := [.int ((y4 + 3)), .float 0, .int ((sc.2 (ix (y4 + 2)))), .int ((sc.2 (ix (y4 + 1)))), .ref 526, .int v9]) (M' := gm g10) rfl ?_
        by_cases c14 : zib (y4 + 3) sc.1 = true
        case neg => exact nomatch ((if_neg c14).symm.trans h)
        replace h := (if_pos c14).symm.trans h
        refine g_scr rfl rfl c14 ?_
        refine g_run 4 (pc' := 270) (L' := [some (.float 0), some (.ref 0), some (.ref 526), some (.ref 553), some (.int y4), none, none]) (S' := [.int ((y4 + 4)), .float 0, .int ((sc.2 (ix (y4 + 3)))), .int ((sc.2 (ix (y4 + 2)))), .int ((sc.2 (ix (y4 + 1)))), .ref 526, .int v9]) (M' := gm g10) rfl ?_
        by_cases c15 : zib (y4 + 4) sc.1 = true
        case neg => exact nomatch ((if_neg c15).symm.trans h)
        replace h := (if_pos c15).symm.trans h
        refine g_scr rfl rfl c15 ?_
        refine g_run 4 (pc' := 276) (L' := [some (.float 0), some (.ref 0), some (.ref 526), some (.ref 553), some (.int y4), none, none]) (S' := [.int ((y4 + 5)), .float 0, .int ((sc.2 (ix (y4 + 4)))), .int ((sc.2 (ix (y4 + 3)))), .int ((sc.2 (ix (y4 + 2)))), .int ((sc.2 (ix (y4 + 1)))), .ref 526, .int v9]) (M' := gm g10) rfl ?_
        by_cases c16 : zib (y4 + 5) sc.1 = true
        case neg => exact nomatch ((if_neg c16).symm.trans h)
        replace h := (if_pos c16).symm.trans h
        refine g_scr rfl rfl c16 ?_
        replace h := zB_of h
        obtain ⟨v17, g18, e19, h⟩ := h
        refine g_inv2 (kd := 1) (p_X12_feed  e19) rfl rfl rfl (by decide) rfl rfl rfl rfl (by omega) (pc' := 280) rfl (S' := [.int v17, .int v9]) rfl ?_
        refine g_icmp (v9 = v17) rfl (t := 1566) rfl rfl (fun c20 => ?_) (fun c20 => ?_)
        · replace h := (if_pos c20).symm.trans h
          exact p_L_law_1566 hD sc hH (f_L_law_23 sc n) ih (y4) g18 _ h
        · replace h := (if_neg c20).symm.trans h
          refine g_run 1 (pc' := 284) (L' := [some (.float 0), some (.ref 0), some (.ref 526), some (.ref 553), some (.int y4), none, none]) (S' := [.int 0]) (M' := gm g18) rfl ?_
          cases h
          exact g_ret rfl rfl rfl rfl
      replace h := (if_neg c3).symm.trans h
      by_cases c21 : ((sc.2 (ix y4)) &&& 63) = 1
      · replace h := (if_pos c21).symm.trans h
        refine g_swc c21 rfl rfl rfl (pc' := 285) rfl ?_
        refine g_run 5 (pc' := 291) (L' := [some (.float 0), some (.ref 0), some (.ref 526), some (.ref 553), some (.int y4), none, none]) (S' := [.int ((y4 + 1)), .float 0, .ref 0]) (M' := gm g) rfl ?_
        by_cases c22 : zib (y4 + 1) sc.1 = true
        case neg => exact nomatch ((if_neg c22).symm.trans h)
        replace h := (if_pos c22).symm.trans h
        refine g_scr rfl rfl c22 ?_
        replace h := zB_of h
        obtain ⟨v23, g24, e25, h⟩ := h
        refine g_inv2 (kd := 1) (p_X11_end  e25) rfl rfl rfl (by decide) rfl rfl rfl rfl (by omega) (pc' := 295) rfl (S' := [.int v23]) rfl ?_
        refine g_run 5 (pc' := 301) (L' := [some (.float 0), some (.ref 0), some (.ref 526), some (.ref 553), some (.int y4), none, none]) (S' := [.int ((y4 + 1)), .float 0, .ref 526, .int v23]) (M' := gm g24) rfl ?_
        by_cases c26 : zib (y4 + 1) sc.1 = true
        case neg => exact nomatch ((if_neg c26).symm.trans h)
        replace h := (if_pos c26).symm.trans h
        refine g_scr rfl rfl c26 ?_
        replace h := zB_of h
        obtain ⟨v27, g28, e29, h⟩ := h
        refine g_inv2 (kd := 1) (p_X12_end  e29) rfl rfl rfl (by decide) rfl rfl rfl rfl (by omega) (pc' := 305) rfl (S' := [.int v27, .int v23]) rfl ?_
        refine g_icmp (v23 = v27) rfl (t := 1566) rfl rfl (fun c30 => ?_) (fun c30 => ?_)
        · replace h := (if_pos c30).symm.trans h
          exact p_L_law_1566 hD sc hH (f_L_law_23 sc n) ih (y4) g28 _ h
        · replace h := (if_neg c30).symm.trans h
          refine g_run 1 (pc' := 309) (L' := [some (.float 0), some (.ref 0), some (.ref 526), some (.ref 553), some (.int y4), none, none]) (S' := [.int 0]) (M' := gm g28) rfl ?_
          cases h
          exact g_ret rfl rfl rfl rfl
      replace h := (if_neg c21).symm.trans h
      by_cases c31 : ((sc.2 (ix y4)) &&& 63) = 2
      · replace h := (if_pos c31).symm.trans h
        refine g_swc c31 rfl rfl rfl (pc' := 310) rfl ?_
        refine g_run 5 (pc' := 316) (L' := [some (.float 0), some (.ref 0), some (.ref 526), some (.ref 553), some (.int y4), none, none]) (S' := [.int ((y4 + 1)), .float 0, .ref 0]) (M' := gm g) rfl ?_
        by_cases c32 : zib (y4 + 1) sc.1 = true
        case neg => exact nomatch ((if_neg c32).symm.trans h)
        replace h := (if_pos c32).symm.trans h
        refine g_scr rfl rfl c32 ?_
        replace h := zB_of h
        obtain ⟨v33, g34, e35, h⟩ := h
        refine g_inv2 (kd := 1) (p_X11_fault  e35) rfl rfl rfl (by decide) rfl rfl rfl rfl (by omega) (pc' := 320) rfl (S' := [.int v33]) rfl ?_
        refine g_run 5 (pc' := 326) (L' := [some (.float 0), some (.ref 0), some (.ref 526), some (.ref 553), some (.int y4), none, none]) (S' := [.int ((y4 + 1)), .float 0, .ref 526, .int v33]) (M' := gm g34) rfl ?_
        by_cases c36 : zib (y4 + 1) sc.1 = true
        case neg => exact nomatch ((if_neg c36).symm.trans h)
        replace h := (if_pos c36).symm.trans h
        refine g_scr rfl rfl c36 ?_
        replace h := zB_of h
        obtain ⟨v37, g38, e39, h⟩ := h
        refine g_inv2 (kd := 1) (p_X12_fault  e39) rfl rfl rfl (by decide) rfl rfl rfl rfl (by omega) (pc' := 330) rfl (S' := [.int v37, .int v33]) rfl ?_
        refine g_icmp (v33 = v37) rfl (t := 1566) rfl rfl (fun c40 => ?_) (fun c40 => ?_)
        · replace h := (if_pos c40).symm.trans h
          exact p_L_law_1566 hD sc hH (f_L_law_23 sc n) ih (y4) g38 _ h
        · replace h := (if_neg c40).symm.trans h
          refine g_run 1 (pc' := 334) (L' := [some (.float 0), some (.ref 0), some (.ref 526), some (.ref 553), some (.int y4), none, none]) (S' := [.int 0]) (M' := gm g38) rfl ?_
          cases h
          exact g_ret rfl rfl rfl rfl
      replace h := (if_neg c31).symm.trans h
      by_cases c41 : ((sc.2 (ix y4)) &&& 63) = 3
      · replace h := (if_pos c41).symm.trans h
        refine g_swc c41 rfl rfl rfl (pc' := 335) rfl ?_
        refine g_run 5 (pc' := 341) (L' := [some (.float 0), some (.ref 0), some (.ref 526), some (.ref 553), some (.int y4), none, none]) (S' := [.int ((y4 + 1)), .float 0, .ref 0]) (M' := gm g) rfl ?_
        by_cases c42 : zib (y4 + 1) sc.1 = true
        case neg => exact nomatch ((if_neg c42).symm.trans h)
        replace h := (if_pos c42).symm.trans h
        refine g_scr rfl rfl c42 ?_
        replace h := zB_of h
        obtain ⟨v43, g44, e45, h⟩ := h
        refine g_inv2 (kd := 1) (p_X11_text  e45) rfl rfl rfl (by decide) rfl rfl rfl rfl (by omega) (pc' := 345) rfl (S' := [.int v43]) rfl ?_
        refine g_run 5 (pc' := 351) (L' := [some (.float 0), some (.ref 0), some (.ref 526), some (.ref 553), some (.int y4), none, none]) (S' := [.int ((y4 + 1)), .float 0, .ref 526, .int v43]) (M' := gm g44) rfl ?_
        by_cases c46 : zib (y4 + 1) sc.1 = true
        case neg => exact nomatch ((if_neg c46).symm.trans h)
        replace h := (if_pos c46).symm.trans h
        refine g_scr rfl rfl c46 ?_
        replace h := zB_of h
        obtain ⟨v47, g48, e49, h⟩ := h
        refine g_inv2 (kd := 1) (p_X12_text  e49) rfl rfl rfl (by decide) rfl rfl rfl rfl (by omega) (pc' := 355) rfl (S' := [.int v47, .int v43]) rfl ?_
        refine g_icmp (v43 = v47) rfl (t := 1566) rfl rfl (fun c50 => ?_) (fun c50 => ?_)
        · replace h := (if_pos c50).symm.trans h
          exact p_L_law_1566 hD sc hH (f_L_law_23 sc n) ih (y4) g48 _ h
        · replace h := (if_neg c50).symm.trans h
          refine g_run 1 (pc' := 359) (L' := [some (.float 0), some (.ref 0), some (.ref 526), some (.ref 553), some (.int y4), none, none]) (S' := [.int 0]) (M' := gm g48) rfl ?_
          cases h
          exact g_ret rfl rfl rfl rfl
      replace h := (if_neg c41).symm.trans h
      by_cases c51 : ((sc.2 (ix y4)) &&& 63) = 4
      · replace h := (if_pos c51).symm.trans h
        refine g_swc c51 rfl rfl rfl (pc' := 360) rfl ?_
        refine g_run 5 (pc' := 366) (L' := [some (.float 0), some (.ref 0), some (.ref 526), some (.ref 553), some (.int y4), none, none]) (S' := [.int ((y4 + 1)), .float 0, .ref 0]) (M' := gm g) rfl ?_
        by_cases c52 : zib (y4 + 1) sc.1 = true
        case neg => exact nomatch ((if_neg c52).symm.trans h)
        replace h := (if_pos c52).symm.trans h
        refine g_scr rfl rfl c52 ?_
        replace h := zB_of h
        obtain ⟨v53, g54, e55, h⟩ := h
        refine g_inv2 (kd := 1) (p_X11_rule  e55) rfl rfl rfl (by decide) rfl rfl rfl rfl (by omega) (pc' := 370) rfl (S' := [.int v53]) rfl ?_
        refine g_run 5 (pc' := 376) (L' := [some (.float 0), some (.ref 0), some (.ref 526), some (.ref 553), some (.int y4), none, none]) (S' := [.int ((y4 + 1)), .float 0, .ref 526, .int v53]) (M' := gm g54) rfl ?_
        by_cases c56 : zib (y4 + 1) sc.1 = true
        case neg => exact nomatch ((if_neg c56).symm.trans h)
        replace h := (if_pos c56).symm.trans h
        refine g_scr rfl rfl c56 ?_
        replace h := zB_of h
        obtain ⟨v57, g58, e59, h⟩ := h
        refine g_inv2 (kd := 1) (p_X12_rule  e59) rfl rfl rfl (by decide) rfl rfl rfl rfl (by omega) (pc' := 380) rfl (S' := [.int v57, .int v53]) rfl ?_
        refine g_icmp (v53 = v57) rfl (t := 1566) rfl rfl (fun c60 => ?_) (fun c60 => ?_)
        · replace h := (if_pos c60).symm.trans h
          exact p_L_law_1566 hD sc hH (f_L_law_23 sc n) ih (y4) g58 _ h
        · replace h := (if_neg c60).symm.trans h
          refine g_run 1 (pc' := 384) (L' := [some (.float 0), some (.ref 0), some (.ref 526), some (.ref 553), some (.int y4), none, none]) (S' := [.int 0]) (M' := gm g58) rfl ?_
          cases h
          exact g_ret rfl rfl rfl rfl
      replace h := (if_neg c51).symm.trans h
      by_cases c61 : ((sc.2 (ix y4)) &&& 63) = 5
      · replace h := (if_pos c61).symm.trans h
        refine g_swc c61 rfl rfl rfl (pc' := 385) rfl ?_
        refine g_run 5 (pc' := 391) (L' := [some (.float 0), some (.ref 0), some (.ref 526), some (.ref 553), some (.int y4), none, none]) (S' := [.int ((y4 + 1)), .float 0, .ref 0]) (M' := gm g) rfl ?_
        by_cases c62 : zib (y4 + 1) sc.1 = true
        case neg => exact nomatch ((if_neg c62).symm.trans h)
        replace h := (if_pos c62).symm.trans h
        refine g_scr rfl rfl c62 ?_
        refine g_run 4 (pc' := 397) (L' := [some (.float 0), some (.ref 0), some (.ref 526), some (.ref 553), some (.int y4), none, none]) (S' := [.int ((y4 + 2)), .float 0, .int ((sc.2 (ix (y4 + 1)))), .ref 0]) (M' := gm g) rfl ?_
        by_cases c63 : zib (y4 + 2) sc.1 = true
        case neg => exact nomatch ((if_neg c63).symm.trans h)
        replace h := (if_pos c63).symm.trans h
        refine g_scr rfl rfl c63 ?_
        refine g_run 1 (pc' := 399) (L' := [some (.float 0), some (.ref 0), some (.ref 526), some (.ref 553), some (.int y4), none, none]) (S' := [.ref 553, .int ((sc.2 (ix (y4 + 2)))), .int ((sc.2 (ix (y4 + 1)))), .ref 0]) (M' := gm g) rfl ?_
        replace h := zB_of h
        obtain ⟨v64, g65, e66, h⟩ := h
        refine g_hook rfl rfl rfl (hH _ _ _ [] _ e66 (Nat.le_of_ble_eq_true rfl)) (by omega) rfl (pc' := 402) rfl (S' := [.int v64]) rfl ?_
        refine g_run 6 (pc' := 410) (L' := [some (.float 0), some (.ref 0), some (.ref 526), some (.ref 553), some (.int y4), some (.int v64), none]) (S' := [.int ((y4 + 1)), .float 0, .ref 526]) (M' := gm g65) rfl ?_
        by_cases c67 : zib (y4 + 1) sc.1 = true
        case neg => exact nomatch ((if_neg c67).symm.trans h)
        replace h := (if_pos c67).symm.trans h
        refine g_scr rfl rfl c67 ?_
        refine g_run 4 (pc' := 416) (L' := [some (.float 0), some (.ref 0), some (.ref 526), some (.ref 553), some (.int y4), some (.int v64), none]) (S' := [.int ((y4 + 2)), .float 0, .int ((sc.2 (ix (y4 + 1)))), .ref 526]) (M' := gm g65) rfl ?_
        by_cases c68 : zib (y4 + 2) sc.1 = true
        case neg => exact nomatch ((if_neg c68).symm.trans h)
        replace h := (if_pos c68).symm.trans h
        refine g_scr rfl rfl c68 ?_
        replace h := zB_of h
        obtain ⟨v69, g70, e71, h⟩ := h
        refine g_inv2 (kd := 1) (p_X12_person  e71) rfl rfl rfl (by decide) rfl rfl rfl rfl (by omega) (pc' := 420) rfl (S' := [.int v69]) rfl ?_
        refine g_run 2 (pc' := 423) (L' := [some (.float 0), some (.ref 0), some (.ref 526), some (.ref 553), some (.int y4), some (.int v64), some (.int v69)]) (S' := [.ref 526]) (M' := gm g70) rfl ?_
        replace h := zB_of h
        obtain ⟨v72, g73, e74, h⟩ := h
        refine g_inv2 (kd := 1) (p_X12_thrown  e74) rfl rfl rfl (by decide) rfl rfl rfl rfl (by omega) (pc' := 426) rfl (S' := [.int v72]) rfl ?_
        refine g_run 1 (pc' := 428) (L' := [some (.float 0), some (.ref 0), some (.ref 526), some (.ref 553), some (.int y4), some (.int v64), some (.int v69)]) (S' := [.int v64, .int v72]) (M' := gm g73) rfl ?_
        refine g_icmp (v72 = v64) rfl (t := 433) rfl rfl (fun c75 => ?_) (fun c75 => ?_)
        · replace h := (if_pos c75).symm.trans h
          refine g_run 1 (pc' := 435) (L' := [some (.float 0), some (.ref 0), some (.ref 526), some (.ref 553), some (.int y4), some (.int v64), some (.int v69)]) (S' := [.int v64]) (M' := gm g73) rfl ?_
          refine g_if (¬ v64 = 0) rfl (t := 450) rfl rfl (fun c76 => ?_) (fun c76 => ?_)
          · replace h := (if_pos c76).symm.trans h
            refine g_forget (L' := [some (.float 0), some (.ref 0), some (.ref 526), some (.ref 553), some (.int y4), none, none]) (And.intro rfl (And.intro rfl (And.intro rfl (And.intro rfl (And.intro rfl True.intro))))) ?_
            exact p_L_law_450 hD sc hH (f_L_law_23 sc n) ih (y4) g73 _ h
          · replace h := (if_neg c76).symm.trans h
            refine g_run 6 (pc' := 445) (L' := [some (.float 0), some (.ref 0), some (.ref 526), some (.ref 553), some (.int y4), some (.int v64), some (.int v69)]) (S' := [.int ((lg_cmp (gJ g73 553 0) (v69).toInt64))]) (M' := gm g73) rfl ?_
            refine g_if ((lg_cmp (gJ g73 553 0) (v69).toInt64) = 0) rfl (t := 450) rfl rfl (fun c77 => ?_) (fun c77 => ?_)
            · replace h := (if_pos c77).symm.trans h
              refine g_forget (L' := [some (.float 0), some (.ref 0), some (.ref 526), some (.ref 553), some (.int y4), none, none]) (And.intro rfl (And.intro rfl (And.intro rfl (And.intro rfl (And.intro rfl True.intro))))) ?_
              exact p_L_law_450 hD sc hH (f_L_law_23 sc n) ih (y4) g73 _ h
            · replace h := (if_neg c77).symm.trans h
              refine g_run 1 (pc' := 449) (L' := [some (.float 0), some (.ref 0), some (.ref 526), some (.ref 553), some (.int y4), some (.int v64), some (.int v69)]) (S' := [.int 0]) (M' := gm g73) rfl ?_
              cases h
              exact g_ret rfl rfl rfl rfl
        · replace h := (if_neg c75).symm.trans h
          refine g_run 1 (pc' := 432) (L' := [some (.float 0), some (.ref 0), some (.ref 526), some (.ref 553), some (.int y4), some (.int v64), some (.int v69)]) (S' := [.int 0]) (M' := gm g73) rfl ?_
          cases h
          exact g_ret rfl rfl rfl rfl
      replace h := (if_neg c61).symm.trans h
      by_cases c78 : ((sc.2 (ix y4)) &&& 63) = 6
      · replace h := (if_pos c78).symm.trans h
        refine g_swc c78 rfl rfl rfl (pc' := 453) rfl ?_
        refine g_run 5 (pc' := 459) (L' := [some (.float 0), some (.ref 0), some (.ref 526), some (.ref 553), some (.int y4), none, none]) (S' := [.int ((y4 + 1)), .float 0, .ref 0]) (M' := gm g) rfl ?_
        by_cases c79 : zib (y4 + 1) sc.1 = true
        case neg => exact nomatch ((if_neg c79).symm.trans h)
        replace h := (if_pos c79).symm.trans h
        refine g_scr rfl rfl c79 ?_
        refine g_run 4 (pc' := 465) (L' := [some (.float 0), some (.ref 0), some (.ref 526), some (.ref 553), some (.int y4), none, none]) (S' := [.int ((y4 + 2)), .float 0, .int ((sc.2 (ix (y4 + 1)))), .ref 0]) (M' := gm g) rfl ?_
        by_cases c80 : zib (y4 + 2) sc.1 = true
        case neg => exact nomatch ((if_neg c80).symm.trans h)
        replace h := (if_pos c80).symm.trans h
        refine g_scr rfl rfl c80 ?_
        replace h := zB_of h
        obtain ⟨v81, g82, e83, h⟩ := h
        refine g_inv2 (kd := 1) (p_X11_secret  e83) rfl rfl rfl (by decide) rfl rfl rfl rfl (by omega) (pc' := 469) rfl (S' := [.int v81]) rfl ?_
        refine g_run 5 (pc' := 475) (L' := [some (.float 0), some (.ref 0), some (.ref 526), some (.ref 553), some (.int y4), none, none]) (S' := [.int ((y4 + 1)), .float 0, .ref 526, .int v81]) (M' := gm g82) rfl ?_
        by_cases c84 : zib (y4 + 1) sc.1 = true
        case neg => exact nomatch ((if_neg c84).symm.trans h)
        replace h := (if_pos c84).symm.trans h
        refine g_scr rfl rfl c84 ?_
        refine g_run 4 (pc' := 481) (L' := [some (.float 0), some (.ref 0), some (.ref 526), some (.ref 553), some (.int y4), none, none]) (S' := [.int ((y4 + 2)), .float 0, .int ((sc.2 (ix (y4 + 1)))), .ref 526, .int v81]) (M' := gm g82) rfl ?_
        by_cases c85 : zib (y4 + 2) sc.1 = true
        case neg => exact nomatch ((if_neg c85).symm.trans h)
        replace h := (if_pos c85).symm.trans h
        refine g_scr rfl rfl c85 ?_
        replace h := zB_of h
        obtain ⟨v86, g87, e88, h⟩ := h
        refine g_inv2 (kd := 1) (p_X12_secret  e88) rfl rfl rfl (by decide) rfl rfl rfl rfl (by omega) (pc' := 485) rfl (S' := [.int v86, .int v81]) rfl ?_
        refine g_icmp (v81 = v86) rfl (t := 1566) rfl rfl (fun c89 => ?_) (fun c89 => ?_)
        · replace h := (if_pos c89).symm.trans h
          exact p_L_law_1566 hD sc hH (f_L_law_23 sc n) ih (y4) g87 _ h
        · replace h := (if_neg c89).symm.trans h
          refine g_run 1 (pc' := 489) (L' := [some (.float 0), some (.ref 0), some (.ref 526), some (.ref 553), some (.int y4), none, none]) (S' := [.int 0]) (M' := gm g87) rfl ?_
          cases h
          exact g_ret rfl rfl rfl rfl
      replace h := (if_neg c78).symm.trans h
      by_cases c90 : ((sc.2 (ix y4)) &&& 63) = 7
      · replace h := (if_pos c90).symm.trans h
        refine g_swc c90 rfl rfl rfl (pc' := 490) rfl ?_
        refine g_run 5 (pc' := 496) (L' := [some (.float 0), some (.ref 0), some (.ref 526), some (.ref 553), some (.int y4), none, none]) (S' := [.int ((y4 + 1)), .float 0, .ref 0]) (M' := gm g) rfl ?_
        by_cases c91 : zib (y4 + 1) sc.1 = true
        case neg => exact nomatch ((if_neg c91).symm.trans h)
        replace h := (if_pos c91).symm.trans h
        refine g_scr rfl rfl c91 ?_
        refine g_run 4 (pc' := 502) (L' := [some (.float 0), some (.ref 0), some (.ref 526), some (.ref 553), some (.int y4), none, none]) (S' := [.int ((y4 + 2)), .float 0, .int ((sc.2 (ix (y4 + 1)))), .ref 0]) (M' := gm g) rfl ?_
        by_cases c92 : zib (y4 + 2) sc.1 = true
        case neg => exact nomatch ((if_neg c92).symm.trans h)
        replace h := (if_pos c92).symm.trans h
        refine g_scr rfl rfl c92 ?_
        replace h := zB_of h
        obtain ⟨v93, g94, e95, h⟩ := h
        refine g_inv2 (kd := 1) (p_X11_breath  e95) rfl rfl rfl (by decide) rfl rfl rfl rfl (by omega) (pc' := 506) rfl (S' := [.int v93]) rfl ?_
        refine g_run 5 (pc' := 512) (L' := [some (.float 0), some (.ref 0), some (.ref 526), some (.ref 553), some (.int y4), none, none]) (S' := [.int ((y4 + 1)), .float 0, .ref 526, .int v93]) (M' := gm g94) rfl ?_
        by_cases c96 : zib (y4 + 1) sc.1 = true
        case neg => exact nomatch ((if_neg c96).symm.trans h)
        replace h := (if_pos c96).symm.trans h
        refine g_scr rfl rfl c96 ?_
        refine g_run 4 (pc' := 518) (L' := [some (.float 0), some (.ref 0), some (.ref 526), some (.ref 553), some (.int y4), none, none]) (S' := [.int ((y4 + 2)), .float 0, .int ((sc.2 (ix (y4 + 1)))), .ref 526, .int v93]) (M' := gm g94) rfl ?_
        by_cases c97 : zib (y4 + 2) sc.1 = true
        case neg => exact nomatch ((if_neg c97).symm.trans h)
        replace h := (if_pos c97).symm.trans h
        refine g_scr rfl rfl c97 ?_
        replace h := zB_of h
        obtain ⟨v98, g99, e100, h⟩ := h
        refine g_inv2 (kd := 1) (p_X12_breath  e100) rfl rfl rfl (by decide) rfl rfl rfl rfl (by omega) (pc' := 522) rfl (S' := [.int v98, .int v93]) rfl ?_
        refine g_icmp (v93 = v98) rfl (t := 1566) rfl rfl (fun c101 => ?_) (fun c101 => ?_)
        · replace h := (if_pos c101).symm.trans h
          exact p_L_law_1566 hD sc hH (f_L_law_23 sc n) ih (y4) g99 _ h
        · replace h := (if_neg c101).symm.trans h
          refine g_run 1 (pc' := 526) (L' := [some (.float 0), some (.ref 0), some (.ref 526), some (.ref 553), some (.int y4), none, none]) (S' := [.int 0]) (M' := gm g99) rfl ?_
          cases h
          exact g_ret rfl rfl rfl rfl
      replace h := (if_neg c90).symm.trans h
      by_cases c102 : ((sc.2 (ix y4)) &&& 63) = 8
      · replace h := (if_pos c102).symm.trans h
        refine g_swc c102 rfl rfl rfl (pc' := 527) rfl ?_
        refine g_run 5 (pc' := 533) (L' := [some (.float 0), some (.ref 0), some (.ref 526), some (.ref 553), some (.int y4), none, none]) (S' := [.int ((y4 + 1)), .float 0, .ref 0]) (M' := gm g) rfl ?_
        by_cases c103 : zib (y4 + 1) sc.1 = true
        case neg => exact nomatch ((if_neg c103).symm.trans h)
        replace h := (if_pos c103).symm.trans h
        refine g_scr rfl rfl c103 ?_
        replace h := zB_of h
        obtain ⟨v104, g105, e106, h⟩ := h
        refine g_inv2 (kd := 1) (p_X11_law  e106) rfl rfl rfl (by decide) rfl rfl rfl rfl (by omega) (pc' := 537) rfl (S' := [.int v104]) rfl ?_
        refine g_run 5 (pc' := 543) (L' := [some (.float 0), some (.ref 0), some (.ref 526), some (.ref 553), some (.int y4), none, none]) (S' := [.int ((y4 + 1)), .float 0, .ref 526, .int v104]) (M' := gm g105) rfl ?_
        by_cases c107 : zib (y4 + 1) sc.1 = true
        case neg => exact nomatch ((if_neg c107).symm.trans h)
        replace h := (if_pos c107).symm.trans h
        refine g_scr rfl rfl c107 ?_
        replace h := zB_of h
        obtain ⟨v108, g109, e110, h⟩ := h
        refine g_inv2 (kd := 1) (p_X12_law  e110) rfl rfl rfl (by decide) rfl rfl rfl rfl (by omega) (pc' := 547) rfl (S' := [.int v108, .int v104]) rfl ?_
        refine g_icmp (v104 = v108) rfl (t := 1566) rfl rfl (fun c111 => ?_) (fun c111 => ?_)
        · replace h := (if_pos c111).symm.trans h
          exact p_L_law_1566 hD sc hH (f_L_law_23 sc n) ih (y4) g109 _ h
        · replace h := (if_neg c111).symm.trans h
          refine g_run 1 (pc' := 551) (L' := [some (.float 0), some (.ref 0), some (.ref 526), some (.ref 553), some (.int y4), none, none]) (S' := [.int 0]) (M' := gm g109) rfl ?_
          cases h
          exact g_ret rfl rfl rfl rfl
      replace h := (if_neg c102).symm.trans h
      by_cases c112 : ((sc.2 (ix y4)) &&& 63) = 9
      · replace h := (if_pos c112).symm.trans h
        refine g_swc c112 rfl rfl rfl (pc' := 552) rfl ?_
        refine g_run 5 (pc' := 558) (L' := [some (.float 0), some (.ref 0), some (.ref 526), some (.ref 553), some (.int y4), none, none]) (S' := [.int ((y4 + 1)), .float 0, .ref 0]) (M' := gm g) rfl ?_
        by_cases c113 : zib (y4 + 1) sc.1 = true
        case neg => exact nomatch ((if_neg c113).symm.trans h)
        replace h := (if_pos c113).symm.trans h
        refine g_scr rfl rfl c113 ?_
        replace h := zB_of h
        obtain ⟨v114, g115, e116, h⟩ := h
        refine g_inv2 (kd := 1) (p_X11_nights  e116) rfl rfl rfl (by decide) rfl rfl rfl rfl (by omega) (pc' := 562) rfl (S' := [.int v114]) rfl ?_
        refine g_run 5 (pc' := 568) (L' := [some (.float 0), some (.ref 0), some (.ref 526), some (.ref 553), some (.int y4), none, none]) (S' := [.int ((y4 + 1)), .float 0, .ref 526, .int v114]) (M' := gm g115) rfl ?_
        by_cases c117 : zib (y4 + 1) sc.1 = true
        case neg => exact nomatch ((if_neg c117).symm.trans h)
        replace h := (if_pos c117).symm.trans h
        refine g_scr rfl rfl c117 ?_
        replace h := zB_of h
        obtain ⟨v118, g119, e120, h⟩ := h
        refine g_inv2 (kd := 1) (p_X12_nights  e120) rfl rfl rfl (by decide) rfl rfl rfl rfl (by omega) (pc' := 572) rfl (S' := [.int v118, .int v114]) rfl ?_
        refine g_icmp (v114 = v118) rfl (t := 1566) rfl rfl (fun c121 => ?_) (fun c121 => ?_)
        · replace h := (if_pos c121).symm.trans h
          exact p_L_law_1566 hD sc hH (f_L_law_23 sc n) ih (y4) g119 _ h
        · replace h := (if_neg c121).symm.trans h
          refine g_run 1 (pc' := 576) (L' := [some (.float 0), some (.ref 0), some (.ref 526), some (.ref 553), some (.int y4), none, none]) (S' := [.int 0]) (M' := gm g119) rfl ?_
          cases h
          exact g_ret rfl rfl rfl rfl
      replace h := (if_neg c112).symm.trans h
      by_cases c122 : ((sc.2 (ix y4)) &&& 63) = 10
      · replace h := (if_pos c122).symm.trans h
        refine g_swc c122 rfl rfl rfl (pc' := 577) rfl ?_
        refine g_run 5 (pc' := 583) (L' := [some (.float 0), some (.ref 0), some (.ref 526), some (.ref 553), some (.int y4), none, none]) (S' := [.int ((y4 + 1)), .float 0, .ref 0]) (M' := gm g) rfl ?_
        by_cases c123 : zib (y4 + 1) sc.1 = true
        case neg => exact nomatch ((if_neg c123).symm.trans h)
        replace h := (if_pos c123).symm.trans h
        refine g_scr rfl rfl c123 ?_
        replace h := zB_of h
        obtain ⟨v124, g125, e126, h⟩ := h
        refine g_inv2 (kd := 1) (p_X11_hang  e126) rfl rfl rfl (by decide) rfl rfl rfl rfl (by omega) (pc' := 587) rfl (S' := [.int v124]) rfl ?_
        refine g_run 5 (pc' := 593) (L' := [some (.float 0), some (.ref 0), some (.ref 526), some (.ref 553), some (.int y4), none, none]) (S' := [.int ((y4 + 1)), .float 0, .ref 526, .int v124]) (M' := gm g125) rfl ?_
        by_cases c127 : zib (y4 + 1) sc.1 = true
        case neg => exact nomatch ((if_neg c127).symm.trans h)
        replace h := (if_pos c127).symm.trans h
        refine g_scr rfl rfl c127 ?_
        replace h := zB_of h
        obtain ⟨v128, g129, e130, h⟩ := h
        refine g_inv2 (kd := 1) (p_X12_hang  e130) rfl rfl rfl (by decide) rfl rfl rfl rfl (by omega) (pc' := 597) rfl (S' := [.int v128, .int v124]) rfl ?_
        refine g_icmp (v124 = v128) rfl (t := 1566) rfl rfl (fun c131 => ?_) (fun c131 => ?_)
        · replace h := (if_pos c131).symm.trans h
          exact p_L_law_1566 hD sc hH (f_L_law_23 sc n) ih (y4) g129 _ h
        · replace h := (if_neg c131).symm.trans h
          refine g_run 1 (pc' := 601) (L' := [some (.float 0), some (.ref 0), some (.ref 526), some (.ref 553), some (.int y4), none, none]) (S' := [.int 0]) (M' := gm g129) rfl ?_
          cases h
          exact g_ret rfl rfl rfl rfl
      replace h := (if_neg c122).symm.trans h
      by_cases c132 : ((sc.2 (ix y4)) &&& 63) = 11
      · replace h := (if_pos c132).symm.trans h
        refine g_swc c132 rfl rfl rfl (pc' := 602) rfl ?_
        refine g_run 5 (pc' := 608) (L' := [some (.float 0), some (.ref 0), some (.ref 526), some (.ref 553), some (.int y4), none, none]) (S' := [.int ((y4 + 1)), .float 0, .ref 0]) (M' := gm g) rfl ?_
        by_cases c133 : zib (y4 + 1) sc.1 = true
        case neg => exact nomatch ((if_neg c133).symm.trans h)
        replace h := (if_pos c133).symm.trans h
        refine g_scr rfl rfl c133 ?_
        replace h := zB_of h
        obtain ⟨v134, g135, e136, h⟩ := h
        refine g_inv2 (kd := 1) (p_X11_veers  e136) rfl rfl rfl (by decide) rfl rfl rfl rfl (by omega) (pc' := 612) rfl (S' := [.int v134]) rfl ?_
        refine g_run 5 (pc' := 618) (L' := [some (.float 0), some (.ref 0), some (.ref 526), some (.ref 553), some (.int y4), none, none]) (S' := [.int ((y4 + 1)), .float 0, .ref 526, .int v134]) (M' := gm g135) rfl ?_
        by_cases c137 : zib (y4 + 1) sc.1 = true
        case neg => exact nomatch ((if_neg c137).symm.trans h)
        replace h := (if_pos c137).symm.trans h
        refine g_scr rfl rfl c137 ?_
        replace h := zB_of h
        obtain ⟨v138, g139, e140, h⟩ := h
        refine g_inv2 (kd := 1) (p_X12_veers  e140) rfl rfl rfl (by decide) rfl rfl rfl rfl (by omega) (pc' := 622) rfl (S' := [.int v138, .int v134]) rfl ?_
        refine g_icmp (v134 = v138) rfl (t := 1566) rfl rfl (fun c141 => ?_) (fun c141 => ?_)
        · replace h := (if_pos c141).symm.trans h
          exact p_L_law_1566 hD sc hH (f_L_law_23 sc n) ih (y4) g139 _ h
        · replace h := (if_neg c141).symm.trans h
          refine g_run 1 (pc' := 626) (L' := [some (.float 0), some (.ref 0), some (.ref 526), some (.ref 553), some (.int y4), none, none]) (S' := [.int 0]) (M' := gm g139) rfl ?_
          cases h
          exact g_ret rfl rfl rfl rfl
      replace h := (if_neg c132).symm.trans h
      by_cases c142 : ((sc.2 (ix y4)) &&& 63) = 12
      · replace h := (if_pos c142).symm.trans h
        refine g_swc c142 rfl rfl rfl (pc' := 627) rfl ?_
        refine g_run 5 (pc' := 633) (L' := [some (.float 0), some (.ref 0), some (.ref 526), some (.ref 553), some (.int y4), none, none]) (S' := [.int ((y4 + 1)), .float 0, .ref 0]) (M' := gm g) rfl ?_
        by_cases c143 : zib (y4 + 1) sc.1 = true
        case neg => exact nomatch ((if_neg c143).symm.trans h)
        replace h := (if_pos c143).symm.trans h
        refine g_scr rfl rfl c143 ?_
        refine g_run 4 (pc' := 639) (L' := [some (.float 0), some (.ref 0), some (.ref 526), some (.ref 553), some (.int y4), none, none]) (S' := [.int ((y4 + 2)), .float 0, .int ((sc.2 (ix (y4 + 1)))), .ref 0]) (M' := gm g) rfl ?_
        by_cases c144 : zib (y4 + 2) sc.1 = true
        case neg => exact nomatch ((if_neg c144).symm.trans h)
        replace h := (if_pos c144).symm.trans h
        refine g_scr rfl rfl c144 ?_
        replace h := zB_of h
        obtain ⟨v145, g146, e147, h⟩ := h
        refine g_inv2 (kd := 1) (p_X11_moves  e147) rfl rfl rfl (by decide) rfl rfl rfl rfl (by omega) (pc' := 643) rfl (S' := [.int v145]) rfl ?_
        refine g_run 5 (pc' := 649) (L' := [some (.float 0), some (.ref 0), some (.ref 526), some (.ref 553), some (.int y4), none, none]) (S' := [.int ((y4 + 1)), .float 0, .ref 526, .int v145]) (M' := gm g146) rfl ?_
        by_cases c148 : zib (y4 + 1) sc.1 = true
        case neg => exact nomatch ((if_neg c148).symm.trans h)
        replace h := (if_pos c148).symm.trans h
        refine g_scr rfl rfl c148 ?_
        refine g_run 4 (pc' := 655) (L' := [some (.float 0), some (.ref 0), some (.ref 526), some (.ref 553), some (.int y4), none, none]) (S' := [.int ((y4 + 2)), .float 0, .int ((sc.2 (ix (y4 + 1)))), .ref 526, .int v145]) (M' := gm g146) rfl ?_
        by_cases c149 : zib (y4 + 2) sc.1 = true
        case neg => exact nomatch ((if_neg c149).symm.trans h)
        replace h := (if_pos c149).symm.trans h
        refine g_scr rfl rfl c149 ?_
        replace h := zB_of h
        obtain ⟨v150, g151, e152, h⟩ := h
        refine g_inv2 (kd := 1) (p_X12_moves  e152) rfl rfl rfl (by decide) rfl rfl rfl rfl (by omega) (pc' := 659) rfl (S' := [.int v150, .int v145]) rfl ?_
        refine g_icmp (v145 = v150) rfl (t := 1566) rfl rfl (fun c153 => ?_) (fun c153 => ?_)
        · replace h := (if_pos c153).symm.trans h
          exact p_L_law_1566 hD sc hH (f_L_law_23 sc n) ih (y4) g151 _ h
        · replace h := (if_neg c153).symm.trans h
          refine g_run 1 (pc' := 663) (L' := [some (.float 0), some (.ref 0), some (.ref 526), some (.ref 553), some (.int y4), none, none]) (S' := [.int 0]) (M' := gm g151) rfl ?_
          cases h
          exact g_ret rfl rfl rfl rfl
      replace h := (if_neg c142).symm.trans h
      by_cases c154 : ((sc.2 (ix y4)) &&& 63) = 13
      · replace h := (if_pos c154).symm.trans h
        refine g_swc c154 rfl rfl rfl (pc' := 664) rfl ?_
        refine g_run 5 (pc' := 670) (L' := [some (.float 0), some (.ref 0), some (.ref 526), some (.ref 553), some (.int y4), none, none]) (S' := [.int ((y4 + 1)), .float 0, .ref 0]) (M' := gm g) rfl ?_
        by_cases c155 : zib (y4 + 1) sc.1 = true
        case neg => exact nomatch ((if_neg c155).symm.trans h)
        replace h := (if_pos c155).symm.trans h
        refine g_scr rfl rfl c155 ?_
        replace h := zB_of h
        obtain ⟨v156, g157, e158, h⟩ := h
        refine g_inv2 (kd := 1) (p_X11_oak  e158) rfl rfl rfl (by decide) rfl rfl rfl rfl (by omega) (pc' := 674) rfl (S' := [.int v156]) rfl ?_
        refine g_run 5 (pc' := 680) (L' := [some (.float 0), some (.ref 0), some (.ref 526), some (.ref 553), some (.int y4), none, none]) (S' := [.int ((y4 + 1)), .float 0, .ref 526, .int v156]) (M' := gm g157) rfl ?_
        by_cases c159 : zib (y4 + 1) sc.1 = true
        case neg => exact nomatch ((if_neg c159).symm.trans h)
        replace h := (if_pos c159).symm.trans h
        refine g_scr rfl rfl c159 ?_
        replace h := zB_of h
        obtain ⟨v160, g161, e162, h⟩ := h
        refine g_inv2 (kd := 1) (p_X12_oak  e162) rfl rfl rfl (by decide) rfl rfl rfl rfl (by omega) (pc' := 684) rfl (S' := [.int v160, .int v156]) rfl ?_
        refine g_icmp (v156 = v160) rfl (t := 1566) rfl rfl (fun c163 => ?_) (fun c163 => ?_)
        · replace h := (if_pos c163).symm.trans h
          exact p_L_law_1566 hD sc hH (f_L_law_23 sc n) ih (y4) g161 _ h
        · replace h := (if_neg c163).symm.trans h
          refine g_run 1 (pc' := 688) (L' := [some (.float 0), some (.ref 0), some (.ref 526), some (.ref 553), some (.int y4), none, none]) (S' := [.int 0]) (M' := gm g161) rfl ?_
          cases h
          exact g_ret rfl rfl rfl rfl
      replace h := (if_neg c154).symm.trans h
      by_cases c164 : ((sc.2 (ix y4)) &&& 63) = 14
      · replace h := (if_pos c164).symm.trans h
        refine g_swc c164 rfl rfl rfl (pc' := 689) rfl ?_
        refine g_run 5 (pc' := 695) (L' := [some (.float 0), some (.ref 0), some (.ref 526), some (.ref 553), some (.int y4), none, none]) (S' := [.int ((y4 + 1)), .float 0, .ref 0]) (M' := gm g) rfl ?_
        by_cases c165 : zib (y4 + 1) sc.1 = true
        case neg => exact nomatch ((if_neg c165).symm.trans h)
        replace h := (if_pos c165).symm.trans h
        refine g_scr rfl rfl c165 ?_
        replace h := zB_of h
        obtain ⟨v166, g167, e168, h⟩ := h
        refine g_inv2 (kd := 1) (p_X11_give  e168) rfl rfl rfl (by decide) rfl rfl rfl rfl (by omega) (pc' := 699) rfl (S' := [.int v166]) rfl ?_
        refine g_run 5 (pc' := 705) (L' := [some (.float 0), some (.ref 0), some (.ref 526), some (.ref 553), some (.int y4), none, none]) (S' := [.int ((y4 + 1)), .float 0, .ref 526, .int v166]) (M' := gm g167) rfl ?_
        by_cases c169 : zib (y4 + 1) sc.1 = true
        case neg => exact nomatch ((if_neg c169).symm.trans h)
        replace h := (if_pos c169).symm.trans h
        refine g_scr rfl rfl c169 ?_
        replace h := zB_of h
        obtain ⟨v170, g171, e172, h⟩ := h
        refine g_inv2 (kd := 1) (p_X12_give  e172) rfl rfl rfl (by decide) rfl rfl rfl rfl (by omega) (pc' := 709) rfl (S' := [.int v170, .int v166]) rfl ?_
        refine g_icmp (v166 = v170) rfl (t := 1566) rfl rfl (fun c173 => ?_) (fun c173 => ?_)
        · replace h := (if_pos c173).symm.trans h
          exact p_L_law_1566 hD sc hH (f_L_law_23 sc n) ih (y4) g171 _ h
        · replace h := (if_neg c173).symm.trans h
          refine g_run 1 (pc' := 713) (L' := [some (.float 0), some (.ref 0), some (.ref 526), some (.ref 553), some (.int y4), none, none]) (S' := [.int 0]) (M' := gm g171) rfl ?_
          cases h
          exact g_ret rfl rfl rfl rfl
      replace h := (if_neg c164).symm.trans h
      by_cases c174 : ((sc.2 (ix y4)) &&& 63) = 15
      · replace h := (if_pos c174).symm.trans h
        refine g_swc c174 rfl rfl rfl (pc' := 714) rfl ?_
        refine g_run 5 (pc' := 720) (L' := [some (.float 0), some (.ref 0), some (.ref 526), some (.ref 553), some (.int y4), none, none]) (S' := [.int ((y4 + 1)), .float 0, .ref 0]) (M' := gm g) rfl ?_
        by_cases c175 : zib (y4 + 1) sc.1 = true
        case neg => exact nomatch ((if_neg c175).symm.trans h)
        replace h := (if_pos c175).symm.trans h
        refine g_scr rfl rfl c175 ?_
        replace h := zB_of h
        obtain ⟨v176, g177, e178, h⟩ := h
        refine g_inv2 (kd := 1) (p_X11_gusts  e178) rfl rfl rfl (by decide) rfl rfl rfl rfl (by omega) (pc' := 724) rfl (S' := [.int v176]) rfl ?_
        refine g_run 5 (pc' := 730) (L' := [some (.float 0), some (.ref 0), some (.ref 526), some (.ref 553), some (.int y4), none, none]) (S' := [.int ((y4 + 1)), .float 0, .ref 526, .int v176]) (M' := gm g177) rfl ?_
        by_cases c179 : zib (y4 + 1) sc.1 = true
        case neg => exact nomatch ((if_neg c179).symm.trans h)
        replace h := (if_pos c179).symm.trans h
        refine g_scr rfl rfl c179 ?_
        replace h := zB_of h
        obtain ⟨v180, g181, e182, h⟩ := h
        refine g_inv2 (kd := 1) (p_X12_gusts  e182) rfl rfl rfl (by decide) rfl rfl rfl rfl (by omega) (pc' := 734) rfl (S' := [.int v180, .int v176]) rfl ?_
        refine g_icmp (v176 = v180) rfl (t := 1566) rfl rfl (fun c183 => ?_) (fun c183 => ?_)
        · replace h := (if_pos c183).symm.trans h
          exact p_L_law_1566 hD sc hH (f_L_law_23 sc n) ih (y4) g181 _ h
        · replace h := (if_neg c183).symm.trans h
          refine g_run 1 (pc' := 738) (L' := [some (.float 0), some (.ref 0), some (.ref 526), some (.ref 553), some (.int y4), none, none]) (S' := [.int 0]) (M' := gm g181) rfl ?_
          cases h
          exact g_ret rfl rfl rfl rfl
      replace h := (if_neg c174).symm.trans h
      by_cases c184 : ((sc.2 (ix y4)) &&& 63) = 16
      · replace h := (if_pos c184).symm.trans h
        refine g_swc c184 rfl rfl rfl (pc' := 739) rfl ?_
        refine g_run 5 (pc' := 745) (L' := [some (.float 0), some (.ref 0), some (.ref 526), some (.ref 553), some (.int y4), none, none]) (S' := [.int ((y4 + 1)), .float 0, .ref 0]) (M' := gm g) rfl ?_
        by_cases c185 : zib (y4 + 1) sc.1 = true
        case neg => exact nomatch ((if_neg c185).symm.trans h)
        replace h := (if_pos c185).symm.trans h
        refine g_scr rfl rfl c185 ?_
        refine g_run 4 (pc' := 751) (L' := [some (.float 0), some (.ref 0), some (.ref 526), some (.ref 553), some (.int y4), none, none]) (S' := [.int ((y4 + 2)), .float 0, .int ((sc.2 (ix (y4 + 1)))), .ref 0]) (M' := gm g) rfl ?_
        by_cases c186 : zib (y4 + 2) sc.1 = true
        case neg => exact nomatch ((if_neg c186).symm.trans h)
        replace h := (if_pos c186).symm.trans h
        refine g_scr rfl rfl c186 ?_
        refine g_run 7 (pc' := 761) (L' := [some (.float 0), some (.ref 0), some (.ref 526), some (.ref 553), some (.int y4), none, none]) (S' := [.int ((y4 + 3)), .float 0, .long ((lshl ((sc.2 (ix (y4 + 2)))).toInt64 32)), .int ((sc.2 (ix (y4 + 1)))), .ref 0]) (M' := gm g) rfl ?_
        by_cases c187 : zib (y4 + 3) sc.1 = true
        case neg => exact nomatch ((if_neg c187).symm.trans h)
        replace h := (if_pos c187).symm.trans h
        refine g_scr rfl rfl c187 ?_
        refine g_run 4 (pc' := 768) (L' := [some (.float 0), some (.ref 0), some (.ref 526), some (.ref 553), some (.int y4), none, none]) (S' := [.long (((lshl ((sc.2 (ix (y4 + 2)))).toInt64 32) ||| (((sc.2 (ix (y4 + 3)))).toInt64 &&& 4294967295))), .int ((sc.2 (ix (y4 + 1)))), .ref 0]) (M' := gm g) rfl ?_
        replace h := zB_of h
        obtain ⟨v188, g189, e190, h⟩ := h
        refine g_inv2 (kd := 1) (p_X11_years  e190) rfl rfl rfl (by decide) rfl rfl rfl rfl (by omega) (pc' := 771) rfl (S' := [.int v188]) rfl ?_
        refine g_run 5 (pc' := 777) (L' := [some (.float 0), some (.ref 0), some (.ref 526), some (.ref 553), some (.int y4), none, none]) (S' := [.int ((y4 + 1)), .float 0, .ref 526, .int v188]) (M' := gm g189) rfl ?_
        by_cases c191 : zib (y4 + 1) sc.1 = true
        case neg => exact nomatch ((if_neg c191).symm.trans h)
        replace h := (if_pos c191).symm.trans h
        refine g_scr rfl rfl c191 ?_
        refine g_run 4 (pc' := 783) (L' := [some (.float 0), some (.ref 0), some (.ref 526), some (.ref 553), some (.int y4), none, none]) (S' := [.int ((y4 + 2)), .float 0, .int ((sc.2 (ix (y4 + 1)))), .ref 526, .int v188]) (M' := gm g189) rfl ?_
        by_cases c192 : zib (y4 + 2) sc.1 = true
        case neg => exact nomatch ((if_neg c192).symm.trans h)
        replace h := (if_pos c192).symm.trans h
        refine g_scr rfl rfl c192 ?_
        refine g_run 7 (pc' := 793) (L' := [some (.float 0), some (.ref 0), some (.ref 526), some (.ref 553), some (.int y4), none, none]) (S' := [.int ((y4 + 3)), .float 0, .long ((lshl ((sc.2 (ix (y4 + 2)))).toInt64 32)), .int ((sc.2 (ix (y4 + 1)))), .ref 526, .int v188]) (M' := gm g189) rfl ?_
        by_cases c193 : zib (y4 + 3) sc.1 = true
        case neg => exact nomatch ((if_neg c193).symm.trans h)
        replace h := (if_pos c193).symm.trans h
        refine g_scr rfl rfl c193 ?_
        refine g_run 4 (pc' := 800) (L' := [some (.float 0), some (.ref 0), some (.ref 526), some (.ref 553), some (.int y4), none, none]) (S' := [.long (((lshl ((sc.2 (ix (y4 + 2)))).toInt64 32) ||| (((sc.2 (ix (y4 + 3)))).toInt64 &&& 4294967295))), .int ((sc.2 (ix (y4 + 1)))), .ref 526, .int v188]) (M' := gm g189) rfl ?_
        replace h := zB_of h
        obtain ⟨v194, g195, e196, h⟩ := h
        refine g_inv2 (kd := 1) (p_X12_years  e196) rfl rfl rfl (by decide) rfl rfl rfl rfl (by omega) (pc' := 803) rfl (S' := [.int v194, .int v188]) rfl ?_
        refine g_icmp (v188 = v194) rfl (t := 1566) rfl rfl (fun c197 => ?_) (fun c197 => ?_)
        · replace h := (if_pos c197).symm.trans h
          exact p_L_law_1566 hD sc hH (f_L_law_23 sc n) ih (y4) g195 _ h
        · replace h := (if_neg c197).symm.trans h
          refine g_run 1 (pc' := 807) (L' := [some (.float 0), some (.ref 0), some (.ref 526), some (.ref 553), some (.int y4), none, none]) (S' := [.int 0]) (M' := gm g195) rfl ?_
          cases h
          exact g_ret rfl rfl rfl rfl
      replace h := (if_neg c184).symm.trans h
      by_cases c198 : ((sc.2 (ix y4)) &&& 63) = 17
      · replace h := (if_pos c198).symm.trans h
        refine g_swc c198 rfl rfl rfl (pc' := 808) rfl ?_
        refine g_run 5 (pc' := 814) (L' := [some (.float 0), some (.ref 0), some (.ref 526), some (.ref 553), some (.int y4), none, none]) (S' := [.int ((y4 + 1)), .float 0, .ref 0]) (M' := gm g) rfl ?_
        by_cases c199 : zib (y4 + 1) sc.1 = true
        case neg => exact nomatch ((if_neg c199).symm.trans h)
        replace h := (if_pos c199).symm.trans h
        refine g_scr rfl rfl c199 ?_
        replace h := zB_of h
        obtain ⟨v200, g201, e202, h⟩ := h
        refine g_inv2 (kd := 1) (p_X11_status  e202) rfl rfl rfl (by decide) rfl rfl rfl rfl (by omega) (pc' := 818) rfl (S' := [.int v200]) rfl ?_
        refine g_run 5 (pc' := 824) (L' := [some (.float 0), some (.ref 0), some (.ref 526), some (.ref 553), some (.int y4), none, none]) (S' := [.int ((y4 + 1)), .float 0, .ref 526, .int v200]) (M' := gm g201) rfl ?_
        by_cases c203 : zib (y4 + 1) sc.1 = true
        case neg => exact nomatch ((if_neg c203).symm.trans h)
        replace h := (if_pos c203).symm.trans h
        refine g_scr rfl rfl c203 ?_
        replace h := zB_of h
        obtain ⟨v204, g205, e206, h⟩ := h
        refine g_inv2 (kd := 1) (p_X12_status  e206) rfl rfl rfl (by decide) rfl rfl rfl rfl (by omega) (pc' := 828) rfl (S' := [.int v204, .int v200]) rfl ?_
        refine g_icmp (v200 = v204) rfl (t := 1566) rfl rfl (fun c207 => ?_) (fun c207 => ?_)
        · replace h := (if_pos c207).symm.trans h
          exact p_L_law_1566 hD sc hH (f_L_law_23 sc n) ih (y4) g205 _ h
        · replace h := (if_neg c207).symm.trans h
          refine g_run 1 (pc' := 832) (L' := [some (.float 0), some (.ref 0), some (.ref 526), some (.ref 553), some (.int y4), none, none]) (S' := [.int 0]) (M' := gm g205) rfl ?_
          cases h
          exact g_ret rfl rfl rfl rfl
      replace h := (if_neg c198).symm.trans h
      by_cases c208 : ((sc.2 (ix y4)) &&& 63) = 18
      · replace h := (if_pos c208).symm.trans h
        refine g_swc c208 rfl rfl rfl (pc' := 833) rfl ?_
        refine g_run 1 (pc' := 834) (L' := [some (.float 0), some (.ref 0), some (.ref 526), some (.ref 553), some (.int y4), none, none]) (S' := [.ref 0]) (M' := gm g) rfl ?_
        replace h := zB_of h
        obtain ⟨v209, g210, e211, h⟩ := h
        refine g_inv2 (kd := 1) (p_X11_undo  e211) rfl rfl rfl (by decide) rfl rfl rfl rfl (by omega) (pc' := 837) rfl (S' := [.int v209]) rfl ?_
        refine g_run 1 (pc' := 838) (L' := [some (.float 0), some (.ref 0), some (.ref 526), some (.ref 553), some (.int y4), none, none]) (S' := [.ref 526, .int v209]) (M' := gm g210) rfl ?_
        replace h := zB_of h
        obtain ⟨v212, g213, e214, h⟩ := h
        refine g_inv2 (kd := 1) (p_X12_undo  e214) rfl rfl rfl (by decide) rfl rfl rfl rfl (by omega) (pc' := 841) rfl (S' := [.int v212, .int v209]) rfl ?_
        refine g_icmp (v209 = v212) rfl (t := 1566) rfl rfl (fun c215 => ?_) (fun c215 => ?_)
        · replace h := (if_pos c215).symm.trans h
          exact p_L_law_1566 hD sc hH (f_L_law_23 sc n) ih (y4) g213 _ h
        · replace h := (if_neg c215).symm.trans h
          refine g_run 1 (pc' := 845) (L' := [some (.float 0), some (.ref 0), some (.ref 526), some (.ref 553), some (.int y4), none, none]) (S' := [.int 0]) (M' := gm g213) rfl ?_
          cases h
          exact g_ret rfl rfl rfl rfl
      replace h := (if_neg c208).symm.trans h
      by_cases c216 : ((sc.2 (ix y4)) &&& 63) = 19
      · replace h := (if_pos c216).symm.trans h
        refine g_swc c216 rfl rfl rfl (pc' := 846) rfl ?_
        refine g_run 5 (pc' := 852) (L' := [some (.float 0), some (.ref 0), some (.ref 526), some (.ref 553), some (.int y4), none, none]) (S' := [.int ((y4 + 1)), .float 0, .ref 0]) (M' := gm g) rfl ?_
        by_cases c217 : zib (y4 + 1) sc.1 = true
        case neg => exact nomatch ((if_neg c217).symm.trans h)
        replace h := (if_pos c217).symm.trans h
        refine g_scr rfl rfl c217 ?_
        refine g_run 4 (pc' := 858) (L' := [some (.float 0), some (.ref 0), some (.ref 526), some (.ref 553), some (.int y4), none, none]) (S' := [.int ((y4 + 2)), .float 0, .int ((sc.2 (ix (y4 + 1)))), .ref 0]) (M' := gm g) rfl ?_
        by_cases c218 : zib (y4 + 2) sc.1 = true
        case neg => exact nomatch ((if_neg c218).symm.trans h)
        replace h := (if_pos c218).symm.trans h
        refine g_scr rfl rfl c218 ?_
        replace h := zB_of h
        obtain ⟨v219, g220, e221, h⟩ := h
        refine g_inv2 (kd := 1) (p_X11_log  e221) rfl rfl rfl (by decide) rfl rfl rfl rfl (by omega) (pc' := 862) rfl (S' := [.int v219]) rfl ?_
        refine g_run 5 (pc' := 868) (L' := [some (.float 0), some (.ref 0), some (.ref 526), some (.ref 553), some (.int y4), none, none]) (S' := [.int ((y4 + 1)), .float 0, .ref 526, .int v219]) (M' := gm g220) rfl ?_
        by_cases c222 : zib (y4 + 1) sc.1 = true
        case neg => exact nomatch ((if_neg c222).symm.trans h)
        replace h := (if_pos c222).symm.trans h
        refine g_scr rfl rfl c222 ?_
        refine g_run 4 (pc' := 874) (L' := [some (.float 0), some (.ref 0), some (.ref 526), some (.ref 553), some (.int y4), none, none]) (S' := [.int ((y4 + 2)), .float 0, .int ((sc.2 (ix (y4 + 1)))), .ref 526, .int v219]) (M' := gm g220) rfl ?_
        by_cases c223 : zib (y4 + 2) sc.1 = true
        case neg => exact nomatch ((if_neg c223).symm.trans h)
        replace h := (if_pos c223).symm.trans h
        refine g_scr rfl rfl c223 ?_
        replace h := zB_of h
        obtain ⟨v224, g225, e226, h⟩ := h
        refine g_inv2 (kd := 1) (p_X12_log  e226) rfl rfl rfl (by decide) rfl rfl rfl rfl (by omega) (pc' := 878) rfl (S' := [.int v224, .int v219]) rfl ?_
        refine g_icmp (v219 = v224) rfl (t := 1566) rfl rfl (fun c227 => ?_) (fun c227 => ?_)
        · replace h := (if_pos c227).symm.trans h
          exact p_L_law_1566 hD sc hH (f_L_law_23 sc n) ih (y4) g225 _ h
        · replace h := (if_neg c227).symm.trans h
          refine g_run 1 (pc' := 882) (L' := [some (.float 0), some (.ref 0), some (.ref 526), some (.ref 553), some (.int y4), none, none]) (S' := [.int 0]) (M' := gm g225) rfl ?_
          cases h
          exact g_ret rfl rfl rfl rfl
      replace h := (if_neg c216).symm.trans h
      by_cases c228 : ((sc.2 (ix y4)) &&& 63) = 20
      · replace h := (if_pos c228).symm.trans h
        refine g_swc c228 rfl rfl rfl (pc' := 883) rfl ?_
        refine g_run 5 (pc' := 889) (L' := [some (.float 0), some (.ref 0), some (.ref 526), some (.ref 553), some (.int y4), none, none]) (S' := [.int ((y4 + 1)), .float 0, .ref 0]) (M' := gm g) rfl ?_
        by_cases c229 : zib (y4 + 1) sc.1 = true
        case neg => exact nomatch ((if_neg c229).symm.trans h)
        replace h := (if_pos c229).symm.trans h
        refine g_scr rfl rfl c229 ?_
        refine g_run 4 (pc' := 895) (L' := [some (.float 0), some (.ref 0), some (.ref 526), some (.ref 553), some (.int y4), none, none]) (S' := [.int ((y4 + 2)), .float 0, .int ((sc.2 (ix (y4 + 1)))), .ref 0]) (M' := gm g) rfl ?_
        by_cases c230 : zib (y4 + 2) sc.1 = true
        case neg => exact nomatch ((if_neg c230).symm.trans h)
        replace h := (if_pos c230).symm.trans h
        refine g_scr rfl rfl c230 ?_
        replace h := zB_of h
        obtain ⟨v231, g232, e233, h⟩ := h
        refine g_inv2 (kd := 1) (p_X11_strength  e233) rfl rfl rfl (by decide) rfl rfl rfl rfl (by omega) (pc' := 899) rfl (S' := [.int v231]) rfl ?_
        refine g_run 5 (pc' := 905) (L' := [some (.float 0), some (.ref 0), some (.ref 526), some (.ref 553), some (.int y4), none, none]) (S' := [.int ((y4 + 1)), .float 0, .ref 526, .int v231]) (M' := gm g232) rfl ?_
        by_cases c234 : zib (y4 + 1) sc.1 = true
        case neg => exact nomatch ((if_neg c234).symm.trans h)
        replace h := (if_pos c234).symm.trans h
        refine g_scr rfl rfl c234 ?_
        refine g_run 4 (pc' := 911) (L' := [some (.float 0), some (.ref 0), some (.ref 526), some (.ref 553), some (.int y4), none, none]) (S' := [.int ((y4 + 2)), .float 0, .int ((sc.2 (ix (y4 + 1)))), .ref 526, .int v231]) (M' := gm g232) rfl ?_
        by_cases c235 : zib (y4 + 2) sc.1 = true
        case neg => exact nomatch ((if_neg c235).symm.trans h)
        replace h := (if_pos c235).symm.trans h
        refine g_scr rfl rfl c235 ?_
        replace h := zB_of h
        obtain ⟨v236, g237, e238, h⟩ := h
        refine g_inv2 (kd := 1) (p_X12_strength  e238) rfl rfl rfl (by decide) rfl rfl rfl rfl (by omega) (pc' := 915) rfl (S' := [.int v236, .int v231]) rfl ?_
        refine g_icmp (v231 = v236) rfl (t := 1566) rfl rfl (fun c239 => ?_) (fun c239 => ?_)
        · replace h := (if_pos c239).symm.trans h
          exact p_L_law_1566 hD sc hH (f_L_law_23 sc n) ih (y4) g237 _ h
        · replace h := (if_neg c239).symm.trans h
          refine g_run 1 (pc' := 919) (L' := [some (.float 0), some (.ref 0), some (.ref 526), some (.ref 553), some (.int y4), none, none]) (S' := [.int 0]) (M' := gm g237) rfl ?_
          cases h
          exact g_ret rfl rfl rfl rfl
      replace h := (if_neg c228).symm.trans h
      by_cases c240 : ((sc.2 (ix y4)) &&& 63) = 21
      · replace h := (if_pos c240).symm.trans h
        refine g_swc c240 rfl rfl rfl (pc' := 920) rfl ?_
        refine g_run 5 (pc' := 926) (L' := [some (.float 0), some (.ref 0), some (.ref 526), some (.ref 553), some (.int y4), none, none]) (S' := [.int ((y4 + 1)), .float 0, .ref 0]) (M' := gm g) rfl ?_
        by_cases c241 : zib (y4 + 1) sc.1 = true
        case neg => exact nomatch ((if_neg c241).symm.trans h)
        replace h := (if_pos c241).symm.trans h
        refine g_scr rfl rfl c241 ?_
        replace h := zB_of h
        obtain ⟨v242, g243, e244, h⟩ := h
        refine g_inv2 (kd := 1) (p_X11_smells  e244) rfl rfl rfl (by decide) rfl rfl rfl rfl (by omega) (pc' := 930) rfl (S' := [.int v242]) rfl ?_
        refine g_run 5 (pc' := 936) (L' := [some (.float 0), some (.ref 0), some (.ref 526), some (.ref 553), some (.int y4), none, none]) (S' := [.int ((y4 + 1)), .float 0, .ref 526, .int v242]) (M' := gm g243) rfl ?_
        by_cases c245 : zib (y4 + 1) sc.1 = true
        case neg => exact nomatch ((if_neg c245).symm.trans h)
        replace h := (if_pos c245).symm.trans h
        refine g_scr rfl rfl c245 ?_
        replace h := zB_of h
        obtain ⟨v246, g247, e248, h⟩ := h
        refine g_inv2 (kd := 1) (p_X12_smells  e248) rfl rfl rfl (by decide) rfl rfl rfl rfl (by omega) (pc' := 940) rfl (S' := [.int v246, .int v242]) rfl ?_
        refine g_icmp (v242 = v246) rfl (t := 1566) rfl rfl (fun c249 => ?_) (fun c249 => ?_)
        · replace h := (if_pos c249).symm.trans h
          exact p_L_law_1566 hD sc hH (f_L_law_23 sc n) ih (y4) g247 _ h
        · replace h := (if_neg c249).symm.trans h
          refine g_run 1 (pc' := 944) (L' := [some (.float 0), some (.ref 0), some (.ref 526), some (.ref 553), some (.int y4), none, none]) (S' := [.int 0]) (M' := gm g247) rfl ?_
          cases h
          exact g_ret rfl rfl rfl rfl
      replace h := (if_neg c240).symm.trans h
      by_cases c250 : ((sc.2 (ix y4)) &&& 63) = 22
      · replace h := (if_pos c250).symm.trans h
        refine g_swc c250 rfl rfl rfl (pc' := 945) rfl ?_
        refine g_run 5 (pc' := 951) (L' := [some (.float 0), some (.ref 0), some (.ref 526), some (.ref 553), some (.int y4), none, none]) (S' := [.int ((y4 + 1)), .float 0, .ref 0]) (M' := gm g) rfl ?_
        by_cases c251 : zib (y4 + 1) sc.1 = true
        case neg => exact nomatch ((if_neg c251).symm.trans h)
        replace h := (if_pos c251).symm.trans h
        refine g_scr rfl rfl c251 ?_
        replace h := zB_of h
        obtain ⟨v252, g253, e254, h⟩ := h
        refine g_inv2 (kd := 1) (p_X11_air  e254) rfl rfl rfl (by decide) rfl rfl rfl rfl (by omega) (pc' := 955) rfl (S' := [.int v252]) rfl ?_
        refine g_run 5 (pc' := 961) (L' := [some (.float 0), some (.ref 0), some (.ref 526), some (.ref 553), some (.int y4), none, none]) (S' := [.int ((y4 + 1)), .float 0, .ref 526, .int v252]) (M' := gm g253) rfl ?_
        by_cases c255 : zib (y4 + 1) sc.1 = true
        case neg => exact nomatch ((if_neg c255).symm.trans h)
        replace h := (if_pos c255).symm.trans h
        refine g_scr rfl rfl c255 ?_
        replace h := zB_of h
        obtain ⟨v256, g257, e258, h⟩ := h
        refine g_inv2 (kd := 1) (p_X12_air  e258) rfl rfl rfl (by decide) rfl rfl rfl rfl (by omega) (pc' := 965) rfl (S' := [.int v256, .int v252]) rfl ?_
        refine g_icmp (v252 = v256) rfl (t := 1566) rfl rfl (fun c259 => ?_) (fun c259 => ?_)
        · replace h := (if_pos c259).symm.trans h
          exact p_L_law_1566 hD sc hH (f_L_law_23 sc n) ih (y4) g257 _ h
        · replace h := (if_neg c259).symm.trans h
          refine g_run 1 (pc' := 969) (L' := [some (.float 0), some (.ref 0), some (.ref 526), some (.ref 553), some (.int y4), none, none]) (S' := [.int 0]) (M' := gm g257) rfl ?_
          cases h
          exact g_ret rfl rfl rfl rfl
      replace h := (if_neg c250).symm.trans h
      by_cases c260 : ((sc.2 (ix y4)) &&& 63) = 23
      · replace h := (if_pos c260).symm.trans h
        refine g_swc c260 rfl rfl rfl (pc' := 970) rfl ?_
        refine g_run 5 (pc' := 976) (L' := [some (.float 0), some (.ref 0), some (.ref 526), some (.ref 553), some (.int y4), none, none]) (S' := [.int ((y4 + 1)), .float 0, .ref 0]) (M' := gm g) rfl ?_
        by_cases c261 : zib (y4 + 1) sc.1 = true
        case neg => exact nomatch ((if_neg c261).symm.trans h)
        replace h := (if_pos c261).symm.trans h
        refine g_scr rfl rfl c261 ?_
        refine g_run 4 (pc' := 982) (L' := [some (.float 0), some (.ref 0), some (.ref 526), some (.ref 553), some (.int y4), none, none]) (S' := [.int ((y4 + 2)), .float 0, .int ((sc.2 (ix (y4 + 1)))), .ref 0]) (M' := gm g) rfl ?_
        by_cases c262 : zib (y4 + 2) sc.1 = true
        case neg => exact nomatch ((if_neg c262).symm.trans h)
        replace h := (if_pos c262).symm.trans h
        refine g_scr rfl rfl c262 ?_
        replace h := zB_of h
        obtain ⟨v263, g264, e265, h⟩ := h
        refine g_inv2 (kd := 1) (p_X11_soon  e265) rfl rfl rfl (by decide) rfl rfl rfl rfl (by omega) (pc' := 986) rfl (S' := [.int v263]) rfl ?_
        refine g_run 5 (pc' := 992) (L' := [some (.float 0), some (.ref 0), some (.ref 526), some (.ref 553), some (.int y4), none, none]) (S' := [.int ((y4 + 1)), .float 0, .ref 526, .int v263]) (M' := gm g264) rfl ?_
        by_cases c266 : zib (y4 + 1) sc.1 = true
        case neg => exact nomatch ((if_neg c266).symm.trans h)
        replace h := (if_pos c266).symm.trans h
        refine g_scr rfl rfl c266 ?_
        refine g_run 4 (pc' := 998) (L' := [some (.float 0), some (.ref 0), some (.ref 526), some (.ref 553), some (.int y4), none, none]) (S' := [.int ((y4 + 2)), .float 0, .int ((sc.2 (ix (y4 + 1)))), .ref 526, .int v263]) (M' := gm g264) rfl ?_
        by_cases c267 : zib (y4 + 2) sc.1 = true
        case neg => exact nomatch ((if_neg c267).symm.trans h)
        replace h := (if_pos c267).symm.trans h
        refine g_scr rfl rfl c267 ?_
        replace h := zB_of h
        obtain ⟨v268, g269, e270, h⟩ := h
        refine g_inv2 (kd := 1) (p_X12_soon  e270) rfl rfl rfl (by decide) rfl rfl rfl rfl (by omega) (pc' := 1002) rfl (S' := [.int v268, .int v263]) rfl ?_
        refine g_icmp (v263 = v268) rfl (t := 1566) rfl rfl (fun c271 => ?_) (fun c271 => ?_)
        · replace h := (if_pos c271).symm.trans h
          exact p_L_law_1566 hD sc hH (f_L_law_23 sc n) ih (y4) g269 _ h
        · replace h := (if_neg c271).symm.trans h
          refine g_run 1 (pc' := 1006) (L' := [some (.float 0), some (.ref 0), some (.ref 526), some (.ref 553), some (.int y4), none, none]) (S' := [.int 0]) (M' := gm g269) rfl ?_
          cases h
          exact g_ret rfl rfl rfl rfl
      replace h := (if_neg c260).symm.trans h
      by_cases c272 : ((sc.2 (ix y4)) &&& 63) = 24
      · replace h := (if_pos c272).symm.trans h
        refine g_swc c272 rfl rfl rfl (pc' := 1007) rfl ?_
        refine g_run 5 (pc' := 1013) (L' := [some (.float 0), some (.ref 0), some (.ref 526), some (.ref 553), some (.int y4), none, none]) (S' := [.int ((y4 + 1)), .float 0, .ref 0]) (M' := gm g) rfl ?_
        by_cases c273 : zib (y4 + 1) sc.1 = true
        case neg => exact nomatch ((if_neg c273).symm.trans h)
        replace h := (if_pos c273).symm.trans h
        refine g_scr rfl rfl c273 ?_
        replace h := zB_of h
        obtain ⟨v274, g275, e276, h⟩ := h
        refine g_inv2 (kd := 1) (p_X11_ready  e276) rfl rfl rfl (by decide) rfl rfl rfl rfl (by omega) (pc' := 1017) rfl (S' := [.int v274]) rfl ?_
        refine g_run 5 (pc' := 1023) (L' := [some (.float 0), some (.ref 0), some (.ref 526), some (.ref 553), some (.int y4), none, none]) (S' := [.int ((y4 + 1)), .float 0, .ref 526, .int v274]) (M' := gm g275) rfl ?_
        by_cases c277 : zib (y4 + 1) sc.1 = true
        case neg => exact nomatch ((if_neg c277).symm.trans h)
        replace h := (if_pos c277).symm.trans h
        refine g_scr rfl rfl c277 ?_
        replace h := zB_of h
        obtain ⟨v278, g279, e280, h⟩ := h
        refine g_inv2 (kd := 1) (p_X12_ready  e280) rfl rfl rfl (by decide) rfl rfl rfl rfl (by omega) (pc' := 1027) rfl (S' := [.int v278, .int v274]) rfl ?_
        refine g_icmp (v274 = v278) rfl (t := 1566) rfl rfl (fun c281 => ?_) (fun c281 => ?_)
        · replace h := (if_pos c281).symm.trans h
          exact p_L_law_1566 hD sc hH (f_L_law_23 sc n) ih (y4) g279 _ h
        · replace h := (if_neg c281).symm.trans h
          refine g_run 1 (pc' := 1031) (L' := [some (.float 0), some (.ref 0), some (.ref 526), some (.ref 553), some (.int y4), none, none]) (S' := [.int 0]) (M' := gm g279) rfl ?_
          cases h
          exact g_ret rfl rfl rfl rfl
      replace h := (if_neg c272).symm.trans h
      by_cases c282 : ((sc.2 (ix y4)) &&& 63) = 25
      · replace h := (if_pos c282).symm.trans h
        refine g_swc c282 rfl rfl rfl (pc' := 1032) rfl ?_
        refine g_run 5 (pc' := 1038) (L' := [some (.float 0), some (.ref 0), some (.ref 526), some (.ref 553), some (.int y4), none, none]) (S' := [.int ((y4 + 1)), .float 0, .ref 0]) (M' := gm g) rfl ?_
        by_cases c283 : zib (y4 + 1) sc.1 = true
        case neg => exact nomatch ((if_neg c283).symm.trans h)
        replace h := (if_pos c283).symm.trans h
        refine g_scr rfl rfl c283 ?_
        refine g_run 4 (pc' := 1044) (L' := [some (.float 0), some (.ref 0), some (.ref 526), some (.ref 553), some (.int y4), none, none]) (S' := [.int ((y4 + 2)), .float 0, .int ((sc.2 (ix (y4 + 1)))), .ref 0]) (M' := gm g) rfl ?_
        by_cases c284 : zib (y4 + 2) sc.1 = true
        case neg => exact nomatch ((if_neg c284).symm.trans h)
        replace h := (if_pos c284).symm.trans h
        refine g_scr rfl rfl c284 ?_
        refine g_run 4 (pc' := 1050) (L' := [some (.float 0), some (.ref 0), some (.ref 526), some (.ref 553), some (.int y4), none, none]) (S' := [.int ((y4 + 3)), .float 0, .int ((sc.2 (ix (y4 + 2)))), .int ((sc.2 (ix (y4 + 1)))), .ref 0]) (M' := gm g) rfl ?_
        by_cases c285 : zib (y4 + 3) sc.1 = true
        case neg => exact nomatch ((if_neg c285).symm.trans h)
        replace h := (if_pos c285).symm.trans h
        refine g_scr rfl rfl c285 ?_
        replace h := zB_of h
        obtain ⟨v286, g287, e288, h⟩ := h
        refine g_inv2 (kd := 1) (p_X11_kept  e288) rfl rfl rfl (by decide) rfl rfl rfl rfl (by omega) (pc' := 1054) rfl (S' := [.int v286]) rfl ?_
        refine g_run 5 (pc' := 1060) (L' := [some (.float 0), some (.ref 0), some (.ref 526), some (.ref 553), some (.int y4), none, none]) (S' := [.int ((y4 + 1)), .float 0, .ref 526, .int v286]) (M' := gm g287) rfl ?_
        by_cases c289 : zib (y4 + 1) sc.1 = true
        case neg => exact nomatch ((if_neg c289).symm.trans h)
        replace h := (if_pos c289).symm.trans h
        refine g_scr rfl rfl c289 ?_
        refine g_run 4 (pc' := 1066) (L' := [some (.float 0), some (.ref 0), some (.ref 526), some (.ref 553), some (.int y4), none, none]) (S' := [.int ((y4 + 2)), .float 0, .int ((sc.2 (ix (y4 + 1)))), .ref 526, .int v286]) (M' := gm g287) rfl ?_
        by_cases c290 : zib (y4 + 2) sc.1 = true
        case neg => exact nomatch ((if_neg c290).symm.trans h)
        replace h := (if_pos c290).symm.trans h
        refine g_scr rfl rfl c290 ?_
        refine g_run 4 (pc' := 1072) (L' := [some (.float 0), some (.ref 0), some (.ref 526), some (.ref 553), some (.int y4), none, none]) (S' := [.int ((y4 + 3)), .float 0, .int ((sc.2 (ix (y4 + 2)))), .int ((sc.2 (ix (y4 + 1)))), .ref 526, .int v286]) (M' := gm g287) rfl ?_
        by_cases c291 : zib (y4 + 3) sc.1 = true
        case neg => exact nomatch ((if_neg c291).symm.trans h)
        replace h := (if_pos c291).symm.trans h
        refine g_scr rfl rfl c291 ?_
        replace h := zB_of h
        obtain ⟨v292, g293, e294, h⟩ := h
        refine g_inv2 (kd := 1) (p_X12_kept  e294) rfl rfl rfl (by decide) rfl rfl rfl rfl (by omega) (pc' := 1076) rfl (S' := [.int v292, .int v286]) rfl ?_
        refine g_icmp (v286 = v292) rfl (t := 1566) rfl rfl (fun c295 => ?_) (fun c295 => ?_)
        · replace h := (if_pos c295).symm.trans h
          exact p_L_law_1566 hD sc hH (f_L_law_23 sc n) ih (y4) g293 _ h
        · replace h := (if_neg c295).symm.trans h
          refine g_run 1 (pc' := 1080) (L' := [some (.float 0), some (.ref 0), some (.ref 526), some (.ref 553), some (.int y4), none, none]) (S' := [.int 0]) (M' := gm g293) rfl ?_
          cases h
          exact g_ret rfl rfl rfl rfl
      replace h := (if_neg c282).symm.trans h
      by_cases c296 : ((sc.2 (ix y4)) &&& 63) = 26
      · replace h := (if_pos c296).symm.trans h
        refine g_swc c296 rfl rfl rfl (pc' := 1081) rfl ?_
        refine g_run 5 (pc' := 1087) (L' := [some (.float 0), some (.ref 0), some (.ref 526), some (.ref 553), some (.int y4), none, none]) (S' := [.int ((y4 + 1)), .float 0, .ref 0]) (M' := gm g) rfl ?_
        by_cases c297 : zib (y4 + 1) sc.1 = true
        case neg => exact nomatch ((if_neg c297).symm.trans h)
        replace h := (if_pos c297).symm.trans h
        refine g_scr rfl rfl c297 ?_
        refine g_run 4 (pc' := 1093) (L' := [some (.float 0), some (.ref 0), some (.ref 526), some (.ref 553), some (.int y4), none, none]) (S' := [.int ((y4 + 2)), .float 0, .int ((sc.2 (ix (y4 + 1)))), .ref 0]) (M' := gm g) rfl ?_
        by_cases c298 : zib (y4 + 2) sc.1 = true
        case neg => exact nomatch ((if_neg c298).symm.trans h)
        replace h := (if_pos c298).symm.trans h
        refine g_scr rfl rfl c298 ?_
        refine g_run 4 (pc' := 1099) (L' := [some (.float 0), some (.ref 0), some (.ref 526), some (.ref 553), some (.int y4), none, none]) (S' := [.int ((y4 + 3)), .float 0, .int ((sc.2 (ix (y4 + 2)))), .int ((sc.2 (ix (y4 + 1)))), .ref 0]) (M' := gm g) rfl ?_
        by_cases c299 : zib (y4 + 3) sc.1 = true
        case neg => exact nomatch ((if_neg c299).symm.trans h)
        replace h := (if_pos c299).symm.trans h
        refine g_scr rfl rfl c299 ?_
        refine g_if ((sc.2 (ix (y4 + 3))) = 0) rfl (t := 1107) rfl rfl (fun c300 => ?_) (fun c300 => ?_)
        · replace h := (if_pos c300).symm.trans h
          refine g_run 1 (pc' := 1108) (L' := [some (.float 0), some (.ref 0), some (.ref 526), some (.ref 553), some (.int y4), none, none]) (S' := [.int 0, .int ((sc.2 (ix (y4 + 2)))), .int ((sc.2 (ix (y4 + 1)))), .ref 0]) (M' := gm g) rfl ?_
          exact p_L_law_1108 hD sc hH (f_L_law_23 sc n) ih (y4) (0) (sc.2 (ix (y4 + 2))) (sc.2 (ix (y4 + 1))) g _ h
        · replace h := (if_neg c300).symm.trans h
          refine g_run 2 (pc' := 1108) (L' := [some (.float 0), some (.ref 0), some (.ref 526), some (.ref 553), some (.int y4), none, none]) (S' := [.int 1, .int ((sc.2 (ix (y4 + 2)))), .int ((sc.2 (ix (y4 + 1)))), .ref 0]) (M' := gm g) rfl ?_
          exact p_L_law_1108 hD sc hH (f_L_law_23 sc n) ih (y4) (1) (sc.2 (ix (y4 + 2))) (sc.2 (ix (y4 + 1))) g _ h
      replace h := (if_neg c296).symm.trans h
      by_cases c301 : ((sc.2 (ix y4)) &&& 63) = 27
      · replace h := (if_pos c301).symm.trans h
        refine g_swc c301 rfl rfl rfl (pc' := 1146) rfl ?_
        refine g_run 5 (pc' := 1152) (L' := [some (.float 0), some (.ref 0), some (.ref 526), some (.ref 553), some (.int y4), none, none]) (S' := [.int ((y4 + 1)), .float 0, .ref 0]) (M' := gm g) rfl ?_
        by_cases c302 : zib (y4 + 1) sc.1 = true
        case neg => exact nomatch ((if_neg c302).symm.trans h)
        replace h := (if_pos c302).symm.trans h
        refine g_scr rfl rfl c302 ?_
        refine g_run 4 (pc' := 1158) (L' := [some (.float 0), some (.ref 0), some (.ref 526), some (.ref 553), some (.int y4), none, none]) (S' := [.int ((y4 + 2)), .float 0, .int ((sc.2 (ix (y4 + 1)))), .ref 0]) (M' := gm g) rfl ?_
        by_cases c303 : zib (y4 + 2) sc.1 = true
        case neg => exact nomatch ((if_neg c303).symm.trans h)
        replace h := (if_pos c303).symm.trans h
        refine g_scr rfl rfl c303 ?_
        replace h := zB_of h
        obtain ⟨v304, g305, e306, h⟩ := h
        refine g_inv2 (kd := 1) (p_X11_heavies  e306) rfl rfl rfl (by decide) rfl rfl rfl rfl (by omega) (pc' := 1162) rfl (S' := [.int v304]) rfl ?_
        refine g_run 5 (pc' := 1168) (L' := [some (.float 0), some (.ref 0), some (.ref 526), some (.ref 553), some (.int y4), none, none]) (S' := [.int ((y4 + 1)), .float 0, .ref 526, .int v304]) (M' := gm g305) rfl ?_
        by_cases c307 : zib (y4 + 1) sc.1 = true
        case neg => exact nomatch ((if_neg c307).symm.trans h)
        replace h := (if_pos c307).symm.trans h
        refine g_scr rfl rfl c307 ?_
        refine g_run 4 (pc' := 1174) (L' := [some (.float 0), some (.ref 0), some (.ref 526), some (.ref 553), some (.int y4), none, none]) (S' := [.int ((y4 + 2)), .float 0, .int ((sc.2 (ix (y4 + 1)))), .ref 526, .int v304]) (M' := gm g305) rfl ?_
        by_cases c308 : zib (y4 + 2) sc.1 = true
        case neg => exact nomatch ((if_neg c308).symm.trans h)
        replace h := (if_pos c308).symm.trans h
        refine g_scr rfl rfl c308 ?_
        replace h := zB_of h
        obtain ⟨v309, g310, e311, h⟩ := h
        refine g_inv2 (kd := 1) (p_X12_heavies  e311) rfl rfl rfl (by decide) rfl rfl rfl rfl (by omega) (pc' := 1178) rfl (S' := [.int v309, .int v304]) rfl ?_
        refine g_icmp (v304 = v309) rfl (t := 1566) rfl rfl (fun c312 => ?_) (fun c312 => ?_)
        · replace h := (if_pos c312).symm.trans h
          exact p_L_law_1566 hD sc hH (f_L_law_23 sc n) ih (y4) g310 _ h
        · replace h := (if_neg c312).symm.trans h
          refine g_run 1 (pc' := 1182) (L' := [some (.float 0), some (.ref 0), some (.ref 526), some (.ref 553), some (.int y4), none, none]) (S' := [.int 0]) (M' := gm g310) rfl ?_
          cases h
          exact g_ret rfl rfl rfl rfl
      replace h := (if_neg c301).symm.trans h
      by_cases c313 : ((sc.2 (ix y4)) &&& 63) = 28
      · replace h := (if_pos c313).symm.trans h
        refine g_swc c313 rfl rfl rfl (pc' := 1183) rfl ?_
        refine g_run 5 (pc' := 1189) (L' := [some (.float 0), some (.ref 0), some (.ref 526), some (.ref 553), some (.int y4), none, none]) (S' := [.int ((y4 + 1)), .float 0, .ref 0]) (M' := gm g) rfl ?_
        by_cases c314 : zib (y4 + 1) sc.1 = true
        case neg => exact nomatch ((if_neg c314).symm.trans h)
        replace h := (if_pos c314).symm.trans h
        refine g_scr rfl rfl c314 ?_
        replace h := zB_of h
        obtain ⟨v315, g316, e317, h⟩ := h
        refine g_inv2 (kd := 1) (p_X11_ask  e317) rfl rfl rfl (by decide) rfl rfl rfl rfl (by omega) (pc' := 1193) rfl (S' := [.int v315]) rfl ?_
        refine g_run 5 (pc' := 1199) (L' := [some (.float 0), some (.ref 0), some (.ref 526), some (.ref 553), some (.int y4), none, none]) (S' := [.int ((y4 + 1)), .float 0, .ref 526, .int v315]) (M' := gm g316) rfl ?_
        by_cases c318 : zib (y4 + 1) sc.1 = true
        case neg => exact nomatch ((if_neg c318).symm.trans h)
        replace h := (if_pos c318).symm.trans h
        refine g_scr rfl rfl c318 ?_
        replace h := zB_of h
        obtain ⟨v319, g320, e321, h⟩ := h
        refine g_inv2 (kd := 1) (p_X12_ask  e321) rfl rfl rfl (by decide) rfl rfl rfl rfl (by omega) (pc' := 1203) rfl (S' := [.int v319, .int v315]) rfl ?_
        refine g_icmp (v315 = v319) rfl (t := 1566) rfl rfl (fun c322 => ?_) (fun c322 => ?_)
        · replace h := (if_pos c322).symm.trans h
          exact p_L_law_1566 hD sc hH (f_L_law_23 sc n) ih (y4) g320 _ h
        · replace h := (if_neg c322).symm.trans h
          refine g_run 1 (pc' := 1207) (L' := [some (.float 0), some (.ref 0), some (.ref 526), some (.ref 553), some (.int y4), none, none]) (S' := [.int 0]) (M' := gm g320) rfl ?_
          cases h
          exact g_ret rfl rfl rfl rfl
      replace h := (if_neg c313).symm.trans h
      by_cases c323 : ((sc.2 (ix y4)) &&& 63) = 29
      · replace h := (if_pos c323).symm.trans h
        refine g_swc c323 rfl rfl rfl (pc' := 1208) rfl ?_
        refine g_run 5 (pc' := 1214) (L' := [some (.float 0), some (.ref 0), some (.ref 526), some (.ref 553), some (.int y4), none, none]) (S' := [.int ((y4 + 1)), .float 0, .ref 0]) (M' := gm g) rfl ?_
        by_cases c324 : zib (y4 + 1) sc.1 = true
        case neg => exact nomatch ((if_neg c324).symm.trans h)
        replace h := (if_pos c324).symm.trans h
        refine g_scr rfl rfl c324 ?_
        replace h := zB_of h
        obtain ⟨v325, g326, e327, h⟩ := h
        refine g_inv2 (kd := 1) (p_X11_worthwhile  e327) rfl rfl rfl (by decide) rfl rfl rfl rfl (by omega) (pc' := 1218) rfl (S' := [.int v325]) rfl ?_
        refine g_run 5 (pc' := 1224) (L' := [some (.float 0), some (.ref 0), some (.ref 526), some (.ref 553), some (.int y4), none, none]) (S' := [.int ((y4 + 1)), .float 0, .ref 526, .int v325]) (M' := gm g326) rfl ?_
        by_cases c328 : zib (y4 + 1) sc.1 = true
        case neg => exact nomatch ((if_neg c328).symm.trans h)
        replace h := (if_pos c328).symm.trans h
        refine g_scr rfl rfl c328 ?_
        replace h := zB_of h
        obtain ⟨v329, g330, e331, h⟩ := h
        refine g_inv2 (kd := 1) (p_X12_worthwhile  e331) rfl rfl rfl (by decide) rfl rfl rfl rfl (by omega) (pc' := 1228) rfl (S' := [.int v329, .int v325]) rfl ?_
        refine g_icmp (v325 = v329) rfl (t := 1566) rfl rfl (fun c332 => ?_) (fun c332 => ?_)
        · replace h := (if_pos c332).symm.trans h
          exact p_L_law_1566 hD sc hH (f_L_law_23 sc n) ih (y4) g330 _ h
        · replace h := (if_neg c332).symm.trans h
          refine g_run 1 (pc' := 1232) (L' := [some (.float 0), some (.ref 0), some (.ref 526), some (.ref 553), some (.int y4), none, none]) (S' := [.int 0]) (M' := gm g330) rfl ?_
          cases h
          exact g_ret rfl rfl rfl rfl
      replace h := (if_neg c323).symm.trans h
      by_cases c333 : ((sc.2 (ix y4)) &&& 63) = 30
      · replace h := (if_pos c333).symm.trans h
        refine g_swc c333 rfl rfl rfl (pc' := 1233) rfl ?_
        refine g_run 5 (pc' := 1239) (L' := [some (.float 0), some (.ref 0), some (.ref 526), some (.ref 553), some (.int y4), none, none]) (S' := [.int ((y4 + 1)), .float 0, .ref 0]) (M' := gm g) rfl ?_
        by_cases c334 : zib (y4 + 1) sc.1 = true
        case neg => exact nomatch ((if_neg c334).symm.trans h)
        replace h := (if_pos c334).symm.trans h
        refine g_scr rfl rfl c334 ?_
        refine g_run 4 (pc' := 1245) (L' := [some (.float 0), some (.ref 0), some (.ref 526), some (.ref 553), some (.int y4), none, none]) (S' := [.int ((y4 + 2)), .float 0, .int ((sc.2 (ix (y4 + 1)))), .ref 0]) (M' := gm g) rfl ?_
        by_cases c335 : zib (y4 + 2) sc.1 = true
        case neg => exact nomatch ((if_neg c335).symm.trans h)
        replace h := (if_pos c335).symm.trans h
        refine g_scr rfl rfl c335 ?_
        replace h := zB_of h
        obtain ⟨v336, g337, e338, h⟩ := h
        refine g_inv2 (kd := 1) (p_X11_out  e338) rfl rfl rfl (by decide) rfl rfl rfl rfl (by omega) (pc' := 1249) rfl (S' := [.int v336]) rfl ?_
        refine g_run 5 (pc' := 1255) (L' := [some (.float 0), some (.ref 0), some (.ref 526), some (.ref 553), some (.int y4), none, none]) (S' := [.int ((y4 + 1)), .float 0, .ref 526, .int v336]) (M' := gm g337) rfl ?_
        by_cases c339 : zib (y4 + 1) sc.1 = true
        case neg => exact nomatch ((if_neg c339).symm.trans h)
        replace h := (if_pos c339).symm.trans h
        refine g_scr rfl rfl c339 ?_
        refine g_run 4 (pc' := 1261) (L' := [some (.float 0), some (.ref 0), some (.ref 526), some (.ref 553), some (.int y4), none, none]) (S' := [.int ((y4 + 2)), .float 0, .int ((sc.2 (ix (y4 + 1)))), .ref 526, .int v336]) (M' := gm g337) rfl ?_
        by_cases c340 : zib (y4 + 2) sc.1 = true
        case neg => exact nomatch ((if_neg c340).symm.trans h)
        replace h := (if_pos c340).symm.trans h
        refine g_scr rfl rfl c340 ?_
        replace h := zB_of h
        obtain ⟨v341, g342, e343, h⟩ := h
        refine g_inv2 (kd := 1) (p_X12_out  e343) rfl rfl rfl (by decide) rfl rfl rfl rfl (by omega) (pc' := 1265) rfl (S' := [.int v341, .int v336]) rfl ?_
        refine g_icmp (v336 = v341) rfl (t := 1566) rfl rfl (fun c344 => ?_) (fun c344 => ?_)
        · replace h := (if_pos c344).symm.trans h
          exact p_L_law_1566 hD sc hH (f_L_law_23 sc n) ih (y4) g342 _ h
        · replace h := (if_neg c344).symm.trans h
          refine g_run 1 (pc' := 1269) (L' := [some (.float 0), some (.ref 0), some (.ref 526), some (.ref 553), some (.int y4), none, none]) (S' := [.int 0]) (M' := gm g342) rfl ?_
          cases h
          exact g_ret rfl rfl rfl rfl
      replace h := (if_neg c333).symm.trans h
      by_cases c345 : ((sc.2 (ix y4)) &&& 63) = 31
      · replace h := (if_pos c345).symm.trans h
        refine g_swc c345 rfl rfl rfl (pc' := 1270) rfl ?_
        refine g_run 5 (pc' := 1276) (L' := [some (.float 0), some (.ref 0), some (.ref 526), some (.ref 553), some (.int y4), none, none]) (S' := [.int ((y4 + 1)), .float 0, .ref 0]) (M' := gm g) rfl ?_
        by_cases c346 : zib (y4 + 1) sc.1 = true
        case neg => exact nomatch ((if_neg c346).symm.trans h)
        replace h := (if_pos c346).symm.trans h
        refine g_scr rfl rfl c346 ?_
        refine g_run 4 (pc' := 1282) (L' := [some (.float 0), some (.ref 0), some (.ref 526), some (.ref 553), some (.int y4), none, none]) (S' := [.int ((y4 + 2)), .float 0, .int ((sc.2 (ix (y4 + 1)))), .ref 0]) (M' := gm g) rfl ?_
        by_cases c347 : zib (y4 + 2) sc.1 = true
        case neg => exact nomatch ((if_neg c347).symm.trans h)
        replace h := (if_pos c347).symm.trans h
        refine g_scr rfl rfl c347 ?_
        refine g_run 4 (pc' := 1288) (L' := [some (.float 0), some (.ref 0), some (.ref 526), some (.ref 553), some (.int y4), none, none]) (S' := [.int ((y4 + 3)), .float 0, .int ((sc.2 (ix (y4 + 2)))), .int ((sc.2 (ix (y4 + 1)))), .ref 0]) (M' := gm g) rfl ?_
        by_cases c348 : zib (y4 + 3) sc.1 = true
        case neg => exact nomatch ((if_neg c348).symm.trans h)
        replace h := (if_pos c348).symm.trans h
        refine g_scr rfl rfl c348 ?_
        refine g_run 4 (pc' := 1294) (L' := [some (.float 0), some (.ref 0), some (.ref 526), some (.ref 553), some (.int y4), none, none]) (S' := [.int ((y4 + 4)), .float 0, .int ((sc.2 (ix (y4 + 3)))), .int ((sc.2 (ix (y4 + 2)))), .int ((sc.2 (ix (y4 + 1)))), .ref 0]) (M' := gm g) rfl ?_
        by_cases c349 : zib (y4 + 4) sc.1 = true
        case neg => exact nomatch ((if_neg c349).symm.trans h)
        replace h := (if_pos c349).symm.trans h
        refine g_scr rfl rfl c349 ?_
        refine g_run 4 (pc' := 1300) (L' := [some (.float 0), some (.ref 0), some (.ref 526), some (.ref 553), some (.int y4), none, none]) (S' := [.int ((y4 + 5)), .float 0, .int ((sc.2 (ix (y4 + 4)))), .int ((sc.2 (ix (y4 + 3)))), .int ((sc.2 (ix (y4 + 2)))), .int ((sc.2 (ix (y4 + 1)))), .ref 0]) (M' := gm g) rfl ?_
        by_cases c350 : zib (y4 + 5) sc.1 = true
        case neg => exact nomatch ((if_neg c350).symm.trans h)
        replace h := (if_pos c350).symm.trans h
        refine g_scr rfl rfl c350 ?_
        replace h := zB_of h
        obtain ⟨v351, g352, e353, h⟩ := h
        refine g_inv2 (kd := 1) (p_X11_game  e353) rfl rfl rfl (by decide) rfl rfl rfl rfl (by omega) (pc' := 1304) rfl (S' := [.int v351]) rfl ?_
        refine g_run 5 (pc' := 1310) (L' := [some (.float 0), some (.ref 0), some (.ref 526), some (.ref 553), some (.int y4), none, none]) (S' := [.int ((y4 + 1)), .float 0, .ref 526, .int v351]) (M' := gm g352) rfl ?_
        by_cases c354 : zib (y4 + 1) sc.1 = true
        case neg => exact nomatch ((if_neg c354).symm.trans h)
        replace h := (if_pos c354).symm.trans h
        refine g_scr rfl rfl c354 ?_
        refine g_run 4 (pc' := 1316) (L' := [some (.float 0), some (.ref 0), some (.ref 526), some (.ref 553), some (.int y4), none, none]) (S' := [.int ((y4 + 2)), .float 0, .int ((sc.2 (ix (y4 + 1)))), .ref 526, .int v351]) (M' := gm g352) rfl ?_
        by_cases c355 : zib (y4 + 2) sc.1 = true
        case neg => exact nomatch ((if_neg c355).symm.trans h)
        replace h := (if_pos c355).symm.trans h
        refine g_scr rfl rfl c355 ?_
        refine g_run 4 (pc' := 1322) (L' := [some (.float 0), some (.ref 0), some (.ref 526), some (.ref 553), some (.int y4), none, none]) (S' := [.int ((y4 + 3)), .float 0, .int ((sc.2 (ix (y4 + 2)))), .int ((sc.2 (ix (y4 + 1)))), .ref 526, .int v351]) (M' := gm g352) rfl ?_
        by_cases c356 : zib (y4 + 3) sc.1 = true
        case neg => exact nomatch ((if_neg c356).symm.trans h)
        replace h := (if_pos c356).symm.trans h
        refine g_scr rfl rfl c356 ?_
        refine g_run 4 (pc' := 1328) (L' := [some (.float 0), some (.ref 0), some (.ref 526), some (.ref 553), some (.int y4), none, none]) (S' := [.int ((y4 + 4)), .float 0, .int ((sc.2 (ix (y4 + 3)))), .int ((sc.2 (ix (y4 + 2)))), .int ((sc.2 (ix (y4 + 1)))), .ref 526, .int v351]) (M' := gm g352) rfl ?_
        by_cases c357 : zib (y4 + 4) sc.1 = true
        case neg => exact nomatch ((if_neg c357).symm.trans h)
        replace h := (if_pos c357).symm.trans h
        refine g_scr rfl rfl c357 ?_
        refine g_run 4 (pc' := 1334) (L' := [some (.float 0), some (.ref 0), some (.ref 526), some (.ref 553), some (.int y4), none, none]) (S' := [.int ((y4 + 5)), .float 0, .int ((sc.2 (ix (y4 + 4)))), .int ((sc.2 (ix (y4 + 3)))), .int ((sc.2 (ix (y4 + 2)))), .int ((sc.2 (ix (y4 + 1)))), .ref 526, .int v351]) (M' := gm g352) rfl ?_
        by_cases c358 : zib (y4 + 5) sc.1 = true
        case neg => exact nomatch ((if_neg c358).symm.trans h)
        replace h := (if_pos c358).symm.trans h
        refine g_scr rfl rfl c358 ?_
        replace h := zB_of h
        obtain ⟨v359, g360, e361, h⟩ := h
        refine g_inv2 (kd := 1) (p_X12_game  e361) rfl rfl rfl (by decide) rfl rfl rfl rfl (by omega) (pc' := 1338) rfl (S' := [.int v359, .int v351]) rfl ?_
        refine g_icmp (v351 = v359) rfl (t := 1566) rfl rfl (fun c362 => ?_) (fun c362 => ?_)
        · replace h := (if_pos c362).symm.trans h
          exact p_L_law_1566 hD sc hH (f_L_law_23 sc n) ih (y4) g360 _ h
        · replace h := (if_neg c362).symm.trans h
          refine g_run 1 (pc' := 1342) (L' := [some (.float 0), some (.ref 0), some (.ref 526), some (.ref 553), some (.int y4), none, none]) (S' := [.int 0]) (M' := gm g360) rfl ?_
          cases h
          exact g_ret rfl rfl rfl rfl
      replace h := (if_neg c345).symm.trans h
      by_cases c363 : ((sc.2 (ix y4)) &&& 63) = 32
      · replace h := (if_pos c363).symm.trans h
        refine g_swc c363 rfl rfl rfl (pc' := 1343) rfl ?_
        refine g_run 5 (pc' := 1349) (L' := [some (.float 0), some (.ref 0), some (.ref 526), some (.ref 553), some (.int y4), none, none]) (S' := [.int ((y4 + 1)), .float 0, .ref 0]) (M' := gm g) rfl ?_
        by_cases c364 : zib (y4 + 1) sc.1 = true
        case neg => exact nomatch ((if_neg c364).symm.trans h)
        replace h := (if_pos c364).symm.trans h
        refine g_scr rfl rfl c364 ?_
        refine g_run 4 (pc' := 1355) (L' := [some (.float 0), some (.ref 0), some (.ref 526), some (.ref 553), some (.int y4), none, none]) (S' := [.int ((y4 + 2)), .float 0, .int ((sc.2 (ix (y4 + 1)))), .ref 0]) (M' := gm g) rfl ?_
        by_cases c365 : zib (y4 + 2) sc.1 = true
        case neg => exact nomatch ((if_neg c365).symm.trans h)
        replace h := (if_pos c365).symm.trans h
        refine g_scr rfl rfl c365 ?_
        refine g_run 4 (pc' := 1361) (L' := [some (.float 0), some (.ref 0), some (.ref 526), some (.ref 553), some (.int y4), none, none]) (S' := [.int ((y4 + 3)), .float 0, .int ((sc.2 (ix (y4 + 2)))), .int ((sc.2 (ix (y4 + 1)))), .ref 0]) (M' := gm g) rfl ?_
        by_cases c366 : zib (y4 + 3) sc.1 = true
        case neg => exact nomatch ((if_neg c366).symm.trans h)
        replace h := (if_pos c366).symm.trans h
        refine g_scr rfl rfl c366 ?_
        replace h := zB_of h
        obtain ⟨v367, g368, e369, h⟩ := h
        refine g_inv2 (kd := 1) (p_X11_rests  e369) rfl rfl rfl (by decide) rfl rfl rfl rfl (by omega) (pc' := 1365) rfl (S' := [.int v367]) rfl ?_
        refine g_run 5 (pc' := 1371) (L' := [some (.float 0), some (.ref 0), some (.ref 526), some (.ref 553), some (.int y4), none, none]) (S' := [.int ((y4 + 1)), .float 0, .ref 526, .int v367]) (M' := gm g368) rfl ?_
        by_cases c370 : zib (y4 + 1) sc.1 = true
        case neg => exact nomatch ((if_neg c370).symm.trans h)
        replace h := (if_pos c370).symm.trans h
        refine g_scr rfl rfl c370 ?_
        refine g_run 4 (pc' := 1377) (L' := [some (.float 0), some (.ref 0), some (.ref 526), some (.ref 553), some (.int y4), none, none]) (S' := [.int ((y4 + 2)), .float 0, .int ((sc.2 (ix (y4 + 1)))), .ref 526, .int v367]) (M' := gm g368) rfl ?_
        by_cases c371 : zib (y4 + 2) sc.1 = true
        case neg => exact nomatch ((if_neg c371).symm.trans h)
        replace h := (if_pos c371).symm.trans h
        refine g_scr rfl rfl c371 ?_
        refine g_run 4 (pc' := 1383) (L' := [some (.float 0), some (.ref 0), some (.ref 526), some (.ref 553), some (.int y4), none, none]) (S' := [.int ((y4 + 3)), .float 0, .int ((sc.2 (ix (y4 + 2)))), .int ((sc.2 (ix (y4 + 1)))), .ref 526, .int v367]) (M' := gm g368) rfl ?_
        by_cases c372 : zib (y4 + 3) sc.1 = true
        case neg => exact nomatch ((if_neg c372).symm.trans h)
        replace h := (if_pos c372).symm.trans h
        refine g_scr rfl rfl c372 ?_
        replace h := zB_of h
        obtain ⟨v373, g374, e375, h⟩ := h
        refine g_inv2 (kd := 1) (p_X12_rests  e375) rfl rfl rfl (by decide) rfl rfl rfl rfl (by omega) (pc' := 1387) rfl (S' := [.int v373, .int v367]) rfl ?_
        refine g_icmp (v367 = v373) rfl (t := 1566) rfl rfl (fun c376 => ?_) (fun c376 => ?_)
        · replace h := (if_pos c376).symm.trans h
          exact p_L_law_1566 hD sc hH (f_L_law_23 sc n) ih (y4) g374 _ h
        · replace h := (if_neg c376).symm.trans h
          refine g_run 1 (pc' := 1391) (L' := [some (.float 0), some (.ref 0), some (.ref 526), some (.ref 553), some (.int y4), none, none]) (S' := [.int 0]) (M' := gm g374) rfl ?_
          cases h
          exact g_ret rfl rfl rfl rfl
      replace h := (if_neg c363).symm.trans h
      by_cases c377 : ((sc.2 (ix y4)) &&& 63) = 33
      · replace h := (if_pos c377).symm.trans h
        refine g_swc c377 rfl rfl rfl (pc' := 1392) rfl ?_
        refine g_run 5 (pc' := 1398) (L' := [some (.float 0), some (.ref 0), some (.ref 526), some (.ref 553), some (.int y4), none, none]) (S' := [.int ((y4 + 1)), .float 0, .ref 0]) (M' := gm g) rfl ?_
        by_cases c378 : zib (y4 + 1) sc.1 = true
        case neg => exact nomatch ((if_neg c378).symm.trans h)
        replace h := (if_pos c378).symm.trans h
        refine g_scr rfl rfl c378 ?_
        refine g_run 4 (pc' := 1404) (L' := [some (.float 0), some (.ref 0), some (.ref 526), some (.ref 553), some (.int y4), none, none]) (S' := [.int ((y4 + 2)), .float 0, .int ((sc.2 (ix (y4 + 1)))), .ref 0]) (M' := gm g) rfl ?_
        by_cases c379 : zib (y4 + 2) sc.1 = true
        case neg => exact nomatch ((if_neg c379).symm.trans h)
        replace h := (if_pos c379).symm.trans h
        refine g_scr rfl rfl c379 ?_
        refine g_run 4 (pc' := 1410) (L' := [some (.float 0), some (.ref 0), some (.ref 526), some (.ref 553), some (.int y4), none, none]) (S' := [.int ((y4 + 3)), .float 0, .int ((sc.2 (ix (y4 + 2)))), .int ((sc.2 (ix (y4 + 1)))), .ref 0]) (M' := gm g) rfl ?_
        by_cases c380 : zib (y4 + 3) sc.1 = true
        case neg => exact nomatch ((if_neg c380).symm.trans h)
        replace h := (if_pos c380).symm.trans h
        refine g_scr rfl rfl c380 ?_
        refine g_run 4 (pc' := 1416) (L' := [some (.float 0), some (.ref 0), some (.ref 526), some (.ref 553), some (.int y4), none, none]) (S' := [.int ((y4 + 4)), .float 0, .int ((sc.2 (ix (y4 + 3)))), .int ((sc.2 (ix (y4 + 2)))), .int ((sc.2 (ix (y4 + 1)))), .ref 0]) (M' := gm g) rfl ?_
        by_cases c381 : zib (y4 + 4) sc.1 = true
        case neg => exact nomatch ((if_neg c381).symm.trans h)
        replace h := (if_pos c381).symm.trans h
        refine g_scr rfl rfl c381 ?_
        replace h := zB_of h
        obtain ⟨v382, g383, e384, h⟩ := h
        refine g_inv2 (kd := 1) (p_X11_odds  e384) rfl rfl rfl (by decide) rfl rfl rfl rfl (by omega) (pc' := 1420) rfl (S' := [.int v382]) rfl ?_
        refine g_run 5 (pc' := 1426) (L' := [some (.float 0), some (.ref 0), some (.ref 526), some (.ref 553), some (.int y4), none, none]) (S' := [.int ((y4 + 1)), .float 0, .ref 526, .int v382]) (M' := gm g383) rfl ?_
        by_cases c385 : zib (y4 + 1) sc.1 = true
        case neg => exact nomatch ((if_neg c385).symm.trans h)
        replace h := (if_pos c385).symm.trans h
        refine g_scr rfl rfl c385 ?_
        refine g_run 4 (pc' := 1432) (L' := [some (.float 0), some (.ref 0), some (.ref 526), some (.ref 553), some (.int y4), none, none]) (S' := [.int ((y4 + 2)), .float 0, .int ((sc.2 (ix (y4 + 1)))), .ref 526, .int v382]) (M' := gm g383) rfl ?_
        by_cases c386 : zib (y4 + 2) sc.1 = true
        case neg => exact nomatch ((if_neg c386).symm.trans h)
        replace h := (if_pos c386).symm.trans h
        refine g_scr rfl rfl c386 ?_
        refine g_run 4 (pc' := 1438) (L' := [some (.float 0), some (.ref 0), some (.ref 526), some (.ref 553), some (.int y4), none, none]) (S' := [.int ((y4 + 3)), .float 0, .int ((sc.2 (ix (y4 + 2)))), .int ((sc.2 (ix (y4 + 1)))), .ref 526, .int v382]) (M' := gm g383) rfl ?_
        by_cases c387 : zib (y4 + 3) sc.1 = true
        case neg => exact nomatch ((if_neg c387).symm.trans h)
        replace h := (if_pos c387).symm.trans h
        refine g_scr rfl rfl c387 ?_
        refine g_run 4 (pc' := 1444) (L' := [some (.float 0), some (.ref 0), some (.ref 526), some (.ref 553), some (.int y4), none, none]) (S' := [.int ((y4 + 4)), .float 0, .int ((sc.2 (ix (y4 + 3)))), .int ((sc.2 (ix (y4 + 2)))), .int ((sc.2 (ix (y4 + 1)))), .ref 526, .int v382]) (M' := gm g383) rfl ?_
        by_cases c388 : zib (y4 + 4) sc.1 = true
        case neg => exact nomatch ((if_neg c388).symm.trans h)
        replace h := (if_pos c388).symm.trans h
        refine g_scr rfl rfl c388 ?_
        replace h := zB_of h
        obtain ⟨v389, g390, e391, h⟩ := h
        refine g_inv2 (kd := 1) (p_X12_odds  e391) rfl rfl rfl (by decide) rfl rfl rfl rfl (by omega) (pc' := 1448) rfl (S' := [.int v389, .int v382]) rfl ?_
        refine g_icmp (v382 = v389) rfl (t := 1566) rfl rfl (fun c392 => ?_) (fun c392 => ?_)
        · replace h := (if_pos c392).symm.trans h
          exact p_L_law_1566 hD sc hH (f_L_law_23 sc n) ih (y4) g390 _ h
        · replace h := (if_neg c392).symm.trans h
          refine g_run 1 (pc' := 1452) (L' := [some (.float 0), some (.ref 0), some (.ref 526), some (.ref 553), some (.int y4), none, none]) (S' := [.int 0]) (M' := gm g390) rfl ?_
          cases h
          exact g_ret rfl rfl rfl rfl
      replace h := (if_neg c377).symm.trans h
      by_cases c393 : ((sc.2 (ix y4)) &&& 63) = 34
      · replace h := (if_pos c393).symm.trans h
        refine g_swc c393 rfl rfl rfl (pc' := 1453) rfl ?_
        refine g_run 5 (pc' := 1459) (L' := [some (.float 0), some (.ref 0), some (.ref 526), some (.ref 553), some (.int y4), none, none]) (S' := [.int ((y4 + 1)), .float 0, .ref 0]) (M' := gm g) rfl ?_
        by_cases c394 : zib (y4 + 1) sc.1 = true
        case neg => exact nomatch ((if_neg c394).symm.trans h)
        replace h := (if_pos c394).symm.trans h
        refine g_scr rfl rfl c394 ?_
        refine g_run 4 (pc' := 1465) (L' := [some (.float 0), some (.ref 0), some (.ref 526), some (.ref 553), some (.int y4), none, none]) (S' := [.int ((y4 + 2)), .float 0, .int ((sc.2 (ix (y4 + 1)))), .ref 0]) (M' := gm g) rfl ?_
        by_cases c395 : zib (y4 + 2) sc.1 = true
        case neg => exact nomatch ((if_neg c395).symm.trans h)
        replace h := (if_pos c395).symm.trans h
        refine g_scr rfl rfl c395 ?_
        replace h := zB_of h
        obtain ⟨v396, g397, e398, h⟩ := h
        refine g_inv2 (kd := 1) (p_X11_shares  e398) rfl rfl rfl (by decide) rfl rfl rfl rfl (by omega) (pc' := 1469) rfl (S' := [.int v396]) rfl ?_
        refine g_run 5 (pc' := 1475) (L' := [some (.float 0), some (.ref 0), some (.ref 526), some (.ref 553), some (.int y4), none, none]) (S' := [.int ((y4 + 1)), .float 0, .ref 526, .int v396]) (M' := gm g397) rfl ?_
        by_cases c399 : zib (y4 + 1) sc.1 = true
        case neg => exact nomatch ((if_neg c399).symm.trans h)
        replace h := (if_pos c399).symm.trans h
        refine g_scr rfl rfl c399 ?_
        refine g_run 4 (pc' := 1481) (L' := [some (.float 0), some (.ref 0), some (.ref 526), some (.ref 553), some (.int y4), none, none]) (S' := [.int ((y4 + 2)), .float 0, .int ((sc.2 (ix (y4 + 1)))), .ref 526, .int v396]) (M' := gm g397) rfl ?_
        by_cases c400 : zib (y4 + 2) sc.1 = true
        case neg => exact nomatch ((if_neg c400).symm.trans h)
        replace h := (if_pos c400).symm.trans h
        refine g_scr rfl rfl c400 ?_
        replace h := zB_of h
        obtain ⟨v401, g402, e403, h⟩ := h
        refine g_inv2 (kd := 1) (p_X12_shares  e403) rfl rfl rfl (by decide) rfl rfl rfl rfl (by omega) (pc' := 1485) rfl (S' := [.int v401, .int v396]) rfl ?_
        refine g_icmp (v396 = v401) rfl (t := 1566) rfl rfl (fun c404 => ?_) (fun c404 => ?_)
        · replace h := (if_pos c404).symm.trans h
          exact p_L_law_1566 hD sc hH (f_L_law_23 sc n) ih (y4) g402 _ h
        · replace h := (if_neg c404).symm.trans h
          refine g_run 1 (pc' := 1489) (L' := [some (.float 0), some (.ref 0), some (.ref 526), some (.ref 553), some (.int y4), none, none]) (S' := [.int 0]) (M' := gm g402) rfl ?_
          cases h
          exact g_ret rfl rfl rfl rfl
      replace h := (if_neg c393).symm.trans h
      by_cases c405 : ((sc.2 (ix y4)) &&& 63) = 35
      · replace h := (if_pos c405).symm.trans h
        refine g_swc c405 rfl rfl rfl (pc' := 1490) rfl ?_
        refine g_run 5 (pc' := 1496) (L' := [some (.float 0), some (.ref 0), some (.ref 526), some (.ref 553), some (.int y4), none, none]) (S' := [.int ((y4 + 1)), .float 0, .ref 0]) (M' := gm g) rfl ?_
        by_cases c406 : zib (y4 + 1) sc.1 = true
        case neg => exact nomatch ((if_neg c406).symm.trans h)
        replace h := (if_pos c406).symm.trans h
        refine g_scr rfl rfl c406 ?_
        replace h := zB_of h
        obtain ⟨v407, g408, e409, h⟩ := h
        refine g_inv2 (kd := 1) (p_X11_most  e409) rfl rfl rfl (by decide) rfl rfl rfl rfl (by omega) (pc' := 1500) rfl (S' := [.int v407]) rfl ?_
        refine g_run 5 (pc' := 1506) (L' := [some (.float 0), some (.ref 0), some (.ref 526), some (.ref 553), some (.int y4), none, none]) (S' := [.int ((y4 + 1)), .float 0, .ref 526, .int v407]) (M' := gm g408) rfl ?_
        by_cases c410 : zib (y4 + 1) sc.1 = true
        case neg => exact nomatch ((if_neg c410).symm.trans h)
        replace h := (if_pos c410).symm.trans h
        refine g_scr rfl rfl c410 ?_
        replace h := zB_of h
        obtain ⟨v411, g412, e413, h⟩ := h
        refine g_inv2 (kd := 1) (p_X12_most  e413) rfl rfl rfl (by decide) rfl rfl rfl rfl (by omega) (pc' := 1510) rfl (S' := [.int v411, .int v407]) rfl ?_
        refine g_icmp (v407 = v411) rfl (t := 1566) rfl rfl (fun c414 => ?_) (fun c414 => ?_)
        · replace h := (if_pos c414).symm.trans h
          exact p_L_law_1566 hD sc hH (f_L_law_23 sc n) ih (y4) g412 _ h
        · replace h := (if_neg c414).symm.trans h
          refine g_run 1 (pc' := 1514) (L' := [some (.float 0), some (.ref 0), some (.ref 526), some (.ref 553), some (.int y4), none, none]) (S' := [.int 0]) (M' := gm g412) rfl ?_
          cases h
          exact g_ret rfl rfl rfl rfl
      replace h := (if_neg c405).symm.trans h
      by_cases c415 : ((sc.2 (ix y4)) &&& 63) = 36
      · replace h := (if_pos c415).symm.trans h
        refine g_swc c415 rfl rfl rfl (pc' := 1515) rfl ?_
        refine g_run 1 (pc' := 1516) (L' := [some (.float 0), some (.ref 0), some (.ref 526), some (.ref 553), some (.int y4), none, none]) (S' := [.ref 0]) (M' := gm g) rfl ?_
        replace h := zB_of h
        obtain ⟨v416, g417, e418, h⟩ := h
        refine g_inv2 (kd := 1) (p_X11_image  e418) rfl rfl rfl (by decide) rfl rfl rfl rfl (by omega) (pc' := 1519) rfl (S' := [.int v416]) rfl ?_
        refine g_run 1 (pc' := 1520) (L' := [some (.float 0), some (.ref 0), some (.ref 526), some (.ref 553), some (.int y4), none, none]) (S' := [.ref 526, .int v416]) (M' := gm g417) rfl ?_
        replace h := zB_of h
        obtain ⟨v419, g420, e421, h⟩ := h
        refine g_inv2 (kd := 1) (p_X12_image  e421) rfl rfl rfl (by decide) rfl rfl rfl rfl (by omega) (pc' := 1523) rfl (S' := [.int v419, .int v416]) rfl ?_
        refine g_icmp (v416 = v419) rfl (t := 1566) rfl rfl (fun c422 => ?_) (fun c422 => ?_)
        · replace h := (if_pos c422).symm.trans h
          exact p_L_law_1566 hD sc hH (f_L_law_23 sc n) ih (y4) g420 _ h
        · replace h := (if_neg c422).symm.trans h
          refine g_run 1 (pc' := 1527) (L' := [some (.float 0), some (.ref 0), some (.ref 526), some (.ref 553), some (.int y4), none, none]) (S' := [.int 0]) (M' := gm g420) rfl ?_
          cases h
          exact g_ret rfl rfl rfl rfl
      replace h := (if_neg c415).symm.trans h
      by_cases c423 : ((sc.2 (ix y4)) &&& 63) = 37
      · replace h := (if_pos c423).symm.trans h
        refine g_swc c423 rfl rfl rfl (pc' := 1528) rfl ?_
        refine g_run 1 (pc' := 1529) (L' := [some (.float 0), some (.ref 0), some (.ref 526), some (.ref 553), some (.int y4), none, none]) (S' := [.ref 0]) (M' := gm g) rfl ?_
        replace h := zB_of h
        obtain ⟨v424, g425, e426, h⟩ := h
        refine g_inv2 (kd := 1) (p_X11_back  e426) rfl rfl rfl (by decide) rfl rfl rfl rfl (by omega) (pc' := 1532) rfl (S' := [.int v424]) rfl ?_
        refine g_run 1 (pc' := 1533) (L' := [some (.float 0), some (.ref 0), some (.ref 526), some (.ref 553), some (.int y4), none, none]) (S' := [.ref 526, .int v424]) (M' := gm g425) rfl ?_
        replace h := zB_of h
        obtain ⟨v427, g428, e429, h⟩ := h
        refine g_inv2 (kd := 1) (p_X12_back  e429) rfl rfl rfl (by decide) rfl rfl rfl rfl (by omega) (pc' := 1536) rfl (S' := [.int v427, .int v424]) rfl ?_
        refine g_icmp (v424 = v427) rfl (t := 1566) rfl rfl (fun c430 => ?_) (fun c430 => ?_)
        · replace h := (if_pos c430).symm.trans h
          exact p_L_law_1566 hD sc hH (f_L_law_23 sc n) ih (y4) g428 _ h
        · replace h := (if_neg c430).symm.trans h
          refine g_run 1 (pc' := 1540) (L' := [some (.float 0), some (.ref 0), some (.ref 526), some (.ref 553), some (.int y4), none, none]) (S' := [.int 0]) (M' := gm g428) rfl ?_
          cases h
          exact g_ret rfl rfl rfl rfl
      replace h := (if_neg c423).symm.trans h
      by_cases c431 : ((sc.2 (ix y4)) &&& 63) = 38
      · replace h := (if_pos c431).symm.trans h
        refine g_swc c431 rfl rfl rfl (pc' := 1541) rfl ?_
        refine g_run 5 (pc' := 1547) (L' := [some (.float 0), some (.ref 0), some (.ref 526), some (.ref 553), some (.int y4), none, none]) (S' := [.int ((y4 + 1)), .float 0, .ref 0]) (M' := gm g) rfl ?_
        by_cases c432 : zib (y4 + 1) sc.1 = true
        case neg => exact nomatch ((if_neg c432).symm.trans h)
        replace h := (if_pos c432).symm.trans h
        refine g_scr rfl rfl c432 ?_
        replace h := zB_of h
        obtain ⟨v433, g434, e435, h⟩ := h
        refine g_inv2 (kd := 1) (p_X11_count  e435) rfl rfl rfl (by decide) rfl rfl rfl rfl (by omega) (pc' := 1551) rfl (S' := [.int v433]) rfl ?_
        refine g_run 5 (pc' := 1557) (L' := [some (.float 0), some (.ref 0), some (.ref 526), some (.ref 553), some (.int y4), none, none]) (S' := [.int ((y4 + 1)), .float 0, .ref 526, .int v433]) (M' := gm g434) rfl ?_
        by_cases c436 : zib (y4 + 1) sc.1 = true
        case neg => exact nomatch ((if_neg c436).symm.trans h)
        replace h := (if_pos c436).symm.trans h
        refine g_scr rfl rfl c436 ?_
        replace h := zB_of h
        obtain ⟨v437, g438, e439, h⟩ := h
        refine g_inv2 (kd := 1) (p_X12_count  e439) rfl rfl rfl (by decide) rfl rfl rfl rfl (by omega) (pc' := 1561) rfl (S' := [.int v437, .int v433]) rfl ?_
        refine g_icmp (v433 = v437) rfl (t := 1566) rfl rfl (fun c440 => ?_) (fun c440 => ?_)
        · replace h := (if_pos c440).symm.trans h
          exact p_L_law_1566 hD sc hH (f_L_law_23 sc n) ih (y4) g438 _ h
        · replace h := (if_neg c440).symm.trans h
          refine g_run 1 (pc' := 1565) (L' := [some (.float 0), some (.ref 0), some (.ref 526), some (.ref 553), some (.int y4), none, none]) (S' := [.int 0]) (M' := gm g438) rfl ?_
          cases h
          exact g_ret rfl rfl rfl rfl
      replace h := (if_neg c431).symm.trans h
      have hsw : (((sc.2 (ix y4)) &&& 63)).toInt < 0 ∨ 38 < (((sc.2 (ix y4)) &&& 63)).toInt := by
        have nc3 := lv_neT c3 (a := 0) rfl
        have nc21 := lv_neT c21 (a := 1) rfl
        have nc31 := lv_neT c31 (a := 2) rfl
        have nc41 := lv_neT c41 (a := 3) rfl
        have nc51 := lv_neT c51 (a := 4) rfl
        have nc61 := lv_neT c61 (a := 5) rfl
        have nc78 := lv_neT c78 (a := 6) rfl
        have nc90 := lv_neT c90 (a := 7) rfl
        have nc102 := lv_neT c102 (a := 8) rfl
        have nc112 := lv_neT c112 (a := 9) rfl
        have nc122 := lv_neT c122 (a := 10) rfl
        have nc132 := lv_neT c132 (a := 11) rfl
        have nc142 := lv_neT c142 (a := 12) rfl
        have nc154 := lv_neT c154 (a := 13) rfl
        have nc164 := lv_neT c164 (a := 14) rfl
        have nc174 := lv_neT c174 (a := 15) rfl
        have nc184 := lv_neT c184 (a := 16) rfl
        have nc198 := lv_neT c198 (a := 17) rfl
        have nc208 := lv_neT c208 (a := 18) rfl
        have nc216 := lv_neT c216 (a := 19) rfl
        have nc228 := lv_neT c228 (a := 20) rfl
        have nc240 := lv_neT c240 (a := 21) rfl
        have nc250 := lv_neT c250 (a := 22) rfl
        have nc260 := lv_neT c260 (a := 23) rfl
        have nc272 := lv_neT c272 (a := 24) rfl
        have nc282 := lv_neT c282 (a := 25) rfl
        have nc296 := lv_neT c296 (a := 26) rfl
        have nc301 := lv_neT c301 (a := 27) rfl
        have nc313 := lv_neT c313 (a := 28) rfl
        have nc323 := lv_neT c323 (a := 29) rfl
        have nc333 := lv_neT c333 (a := 30) rfl
        have nc345 := lv_neT c345 (a := 31) rfl
        have nc363 := lv_neT c363 (a := 32) rfl
        have nc377 := lv_neT c377 (a := 33) rfl
        have nc393 := lv_neT c393 (a := 34) rfl
        have nc405 := lv_neT c405 (a := 35) rfl
        have nc415 := lv_neT c415 (a := 36) rfl
        have nc423 := lv_neT c423 (a := 37) rfl
        have nc431 := lv_neT c431 (a := 38) rfl
        omega
      refine g_tsd rfl hsw (t := 1566) rfl ?_
      exact p_L_law_1566 hD sc hH (f_L_law_23 sc n) ih (y4) g _ h
