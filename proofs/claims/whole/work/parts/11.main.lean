/-! ===== the clean machine is sound: the JDK's calls, the induction ===== -/
def zHpOK (l : Launch) (b : Nat) (sp : UInt32 → Nat) (cy : Nat → ClassId) (D : va_G) (sc : zSc) (hp : zHp) (X : State → Heap → Prop) : Prop :=
  ∀ (S S' : List Value) (M M' : zMem), hp S M = some (S', M') → (zN M ≤ zN M' ∧ zS M ≤ zS M') ∧
  ∀ (p : Program) (e : Env) (R : Room) (s : State) (m : MethodId) (args : Array Value) (below : List Frame) (meth : Method) (c : Code) (Q : State → Prop) (cc : ByteArray) (nL own : Nat) (ini : Bool) (n0 s0 pc idx : Nat) (L : List (Option Value)),
    zCx p s m args meth c cc nL own ini b sp cy D sc X → decode cc pc = .ok (.invokestatic idx, 3) → zX own idx = some 1009 → n0 ≤ zN M ∧ s0 ≤ zS M → 16 ≤ R.frames ∧ 1024 ≤ R.locals ∧ zN M' - n0 ≤ R.cells ∧ zS M' - s0 ≤ R.slots → zGo p l e R s m args below meth c Q b nL n0 s0 sp cy D (pc + 3) L S' M' → zGo p l e R s m args below meth c Q b nL n0 s0 sp cy D pc L S M
theorem zw_objI : Cond.instanceMethod objectInit ∈ lw_tbl := List.mem_of_getElem? (i := 144) (by decide +kernel)
theorem zw_objC : Cond.code objectInit ⟨#[0xb1]⟩ 1 none ∈ lw_tbl := List.mem_of_getElem? (i := 145) (by decide +kernel)
theorem zw_math : Cond.initialized "java/lang/Math" ∈ lw_tbl := List.mem_of_getElem? (i := 128) (by decide +kernel)
theorem zw_sys : Cond.initialized "java/lang/System" ∈ lw_tbl := List.mem_of_getElem? (i := 132) (by decide +kernel)
theorem zw_maxS : Cond.static Lib.Math.max.name ∈ lw_tbl := List.mem_of_getElem? (i := 691) (by decide +kernel)
theorem zw_maxC : Cond.code Lib.Math.max.name Lib.Math.max.code 2 (some .int) ∈ lw_tbl := List.mem_of_getElem? (i := 692) (by decide +kernel)
theorem zw_minS : Cond.static Lib.Math.min.name ∈ lw_tbl := List.mem_of_getElem? (i := 694) (by decide +kernel)
theorem zw_minC : Cond.code Lib.Math.min.name Lib.Math.min.code 2 (some .int) ∈ lw_tbl := List.mem_of_getElem? (i := 695) (by decide +kernel)
theorem zw_absS : Cond.static Lib.Math.abs.name ∈ lw_tbl := List.mem_of_getElem? (i := 1340) (by decide +kernel)
theorem zw_absC : Cond.code Lib.Math.abs.name Lib.Math.abs.code 1 (some .int) ∈ lw_tbl := List.mem_of_getElem? (i := 1341) (by decide +kernel)
theorem zw_minlS : Cond.static Lib.MathLoose.min_long.x ∈ lw_tbl := List.mem_of_getElem? (i := 1899) (by decide +kernel)
theorem zw_minlC : Cond.code Lib.MathLoose.min_long.x Lib.MathLoose.min_long.code 4 (some .long) ∈ lw_tbl := List.mem_of_getElem? (i := 1900) (by decide +kernel)
theorem zw_maxlS : Cond.static Lib.MathLoose.max_long.x ∈ lw_tbl := List.mem_of_getElem? (i := 1902) (by decide +kernel)
theorem zw_maxlC : Cond.code Lib.MathLoose.max_long.x Lib.MathLoose.max_long.code 4 (some .long) ∈ lw_tbl := List.mem_of_getElem? (i := 1903) (by decide +kernel)
theorem zw_cpS : Cond.static arraycopyName ∈ lw_tbl := List.mem_of_getElem? (i := 800) (by decide +kernel)
theorem zw_cpN : Cond.native arraycopyName ∈ lw_tbl := List.mem_of_getElem? (i := 801) (by decide +kernel)
theorem zw_cpW : nativeFrameWords "java/lang/System" "arraycopy" 5 ≤ 40 := by decide +kernel
section ZD
variable {p : Program} {l : Launch} {e : Env} {R : Room} {s : State} {m : MethodId} {args : Array Value} {below : List Frame} {meth : Method} {c : Code} {Q : State → Prop}
variable {cc : ByteArray} {b nL own n0 s0 pc pc' : Nat} {sp : UInt32 → Nat} {cy : Nat → ClassId} {D : va_G} {sc : zSc} {X : State → Heap → Prop} {ini : Bool} {L L' : List (Option Value)} {S S' : List Value} {M M' Mf : zMem} {hp : zHp}
theorem zcat_map (b : Nat) (sp : UInt32 → Nat) (S : List Value) : ((S.map (zt b sp)).map fun v => v.category).sum = zcat S := by
  unfold zcat
  rw [List.map_map]
  congr 2
  funext v
  exact zt_cat b sp v
theorem zcopy_go {idx a a1 : Nat} {sp1 dp n : Int32} (hC : zCx p s m args meth c cc nL own ini b sp cy D sc X) (hd : decode cc pc = .ok (.invokestatic idx, 3)) (hX : zX own idx = some 1008) (hcat : zcat S ≤ 8) (ha : zisO M a 13 = true) (ha1 : zisO M a1 13 = true) (h1 : ¬ sp1 < 0) (h2 : ¬ dp < 0) (h3 : ¬ n < 0)
    (h4 : sp1.toNatClampNeg + n.toNatClampNeg ≤ (zK M a).2) (h5 : dp.toNatClampNeg + n.toNatClampNeg ≤ (zK M a1).2) (hR : 1 ≤ R.frames ∧ 64 ≤ R.locals)
    (kk : zGo p l e R s m args below meth c Q b nL n0 s0 sp cy D (pc + 3) L S (zrowI M a1 (va_cpy (zI M a) (zI M a1) sp1.toNatClampNeg dp.toNatClampNeg n.toNatClampNeg))) : zGo p l e R s m args below meth c Q b nL n0 s0 sp cy D pc L (.int n :: .int dp :: .ref a1 :: .int sp1 :: .ref a :: S) M := by
  obtain ⟨hx, hb, hml, hown, hts, hK, hold, hini, hlocks⟩ := id hC
  have hl : Cond.methodLink (zRN own) idx arraycopyName ∈ lw_tbl := zX_ok hX
  have g2 := zisO_spec ha
  have g4 := zisO_spec ha1
  have nn : ∀ z : Int32, ¬ z < 0 → z.toInt = (z.toNatClampNeg : Int) := by
    intro z hz
    have hz0 : (0 : Int) ≤ z.toInt := by
      have := Int32.not_lt.mp hz
      simpa using Int32.le_iff_toInt_le.mp this
    show z.toInt = ((z.toInt.toNat : Nat) : Int)
    omega
  intro H locs ls hW hS hL T hT X9
  have hc0 : H[b + a]? = some (vp_cell (cy 13) ((zK M a).2, .inl (zI M a))) := by
    have := (hW.2 a (by rw [g2]; decide)).2
    rw [zE_13 g2] at this
    exact this
  have hc1 : H[b + a1]? = some (vp_cell (cy 13) ((zK M a1).2, .inl (zI M a1))) := by
    have := (hW.2 a1 (by rw [g4]; decide)).2
    rw [zE_13 g4] at this
    exact this
  obtain ⟨-, k0, hk0, cm0, hkk0⟩ := (hK.2 0 _ rfl).1 (zK M a).2 (fun j => .int (zI M a j))
  obtain ⟨-, k1, hk1, cm1, hkk1⟩ := (hK.2 0 _ rfl).1 (zK M a1).2 (fun j => .int (zI M a1 j))
  obtain ⟨vm', X', step⟩ := X9.arraycopy hx hown (hts _ (zTs_of hl rfl)) (hts _ (zTs_of zw_cpN rfl)) (hts _ (zTs_of zw_cpS rfl)) (hts _ (zTs_of zw_sys rfl)) (src := b + a) (dst := b + a1) (cs := vp_cell (cy 13) ((zK M a).2, .inl (zI M a))) (cd := vp_cell (cy 13) ((zK M a1).2, .inl (zI M a1))) (srcPos := sp1) (destPos := dp) (n := n) (by rw [hT]; exact hc0) (by rw [hT]; exact hc1)
    (fun _ h => by cases h) (fun _ h => by cases h) (fun h => by cases h) (fun h => by cases h) hk0 hk1 hkk0 hkk1 rfl h1 h2 h3
    (by rw [nn sp1 h1, nn n h3]; show ¬ _ > ((arrV (cy 13) (zK M a).2 (fun j => .int (zI M a j))).slots.size : Int); rw [arrV_size]; omega)
    (by rw [nn dp h2, nn n h3]; show ¬ _ > ((arrV (cy 13) (zK M a1).2 (fun j => .int (zI M a1 j))).slots.size : Int); rw [arrV_size]; omega)
    (fun vm₁ _ i hi => by
      have e : (vp_cell (cy 13) ((zK M a).2, .inl (zI M a))).slots.getD (sp1.toNatClampNeg + i) .null = .int (zI M a (sp1.toNatClampNeg + i)) := by
        show (arrV (cy 13) (zK M a).2 (fun j => .int (zI M a j))).slots.getD _ _ = _
        rw [Array.getD_eq_getD_getElem?, arrV_read _ _ (by omega)]
        rfl
      refine ⟨?_, ?_⟩
      · rw [e]
        rfl
      · rw [e]
        exact trivial)
    (g := F0 m pc ls (.int n :: .int dp :: .ref (b + a1) :: .int sp1 :: .ref (b + a) :: S.map (zt b sp))) rfl (by rw [hml, ← hL.1]) (rest := S.map (zt b sp)) rfl (by rw [hb]; exact hd) hR.1 (by show 2 * 0 + ((S.map (zt b sp)).map fun v => v.category).sum + _ ≤ _; rw [zcat_map]; have := zw_cpW; omega)
  have e1 : copied (vp_cell (cy 13) ((zK M a).2, .inl (zI M a))) (vp_cell (cy 13) ((zK M a1).2, .inl (zI M a1))) sp1 dp n = vp_cell (cy 13) ((zK M a1).2, .inl (va_cpy (zI M a) (zI M a1) sp1.toNatClampNeg dp.toNatClampNeg n.toNatClampNeg)) := va_copied (fun z => .int z) (cy 13) (cy 13) (zI M a) (zI M a1) h4
  rw [e1] at X' step
  have hl9 : b + a1 < H.size := (Array.getElem?_eq_some_iff.mp hc1).1
  have hheap : ((T.setVm vm').setCell (b + a1) (vp_cell (cy 13) ((zK M a1).2, .inl (va_cpy (zI M a) (zI M a1) sp1.toNatClampNeg dp.toNatClampNeg n.toNatClampNeg)))).heap = H.setIfInBounds (b + a1) (vp_cell (cy 13) ((zK M a1).2, .inl (va_cpy (zI M a) (zI M a1) sp1.toNatClampNeg dp.toNatClampNeg n.toNatClampNeg))) := by rw [← hT]; rfl
  have oq : ∀ q : Nat, q ≠ b + a1 → (H.setIfInBounds (b + a1) (vp_cell (cy 13) ((zK M a1).2, .inl (va_cpy (zI M a) (zI M a1) sp1.toNatClampNeg dp.toNatClampNeg n.toNatClampNeg))))[q]? = H[q]? := fun q hq => by simp [Array.getElem?_setIfInBounds, Ne.symm hq]
  have hW' : zWd b sp cy D (zrowI M a1 (va_cpy (zI M a) (zI M a1) sp1.toNatClampNeg dp.toNatClampNeg n.toNatClampNeg)) (H.setIfInBounds (b + a1) (vp_cell (cy 13) ((zK M a1).2, .inl (va_cpy (zI M a) (zI M a1) sp1.toNatClampNeg dp.toNatClampNeg n.toNatClampNeg)))) := by
    refine hW.upd (by simp) oq rfl rfl (fun k hk => zE_congr rfl rfl (zrow_ne hk) rfl) ?_
    rw [zE_13 (M := zrowI M a1 _) g4]
    show (H.setIfInBounds (b + a1) _)[b + a1]? = some (vp_cell (cy 13) ((zK M a1).2, .inl (zrow M.2.2.2.1 a1 _ a1)))
    rw [zrow_eq]
    simp [Array.getElem?_setIfInBounds, hl9]
  obtain ⟨t, a1', b1⟩ := kk _ (locs ++ _) ls hW' ⟨by simp; exact hS.1, fun q g5 g6 => by
      rw [oq q (fun e => g6 (by rw [e]; exact Nat.le_add_right _ _))]
      exact hS.2.1 q g5 g6, fun q hq => by
      rcases List.mem_append.mp hq with h | h
      · exact hS.2.2 q h
      · obtain ⟨z, -, hz⟩ := List.mem_map.mp h
        rw [← hz]
        exact Nat.le_add_right _ _⟩ hL _ hheap X'
  exact ⟨t, step t a1', b1⟩
/-- the JDK's own methods, but the text's -/
theorem zsp_go {idx jd kd : Nat} (hstr : zStr l b sp cy D sc X) (hC : zCx p s m args meth c cc nL own ini b sp cy D sc X) (hkd : (kd = 0 ∧ decode cc pc = .ok (.invokestatic idx, 3)) ∨ (kd = 1 ∧ decode cc pc = .ok (.invokevirtual idx, 3)) ∨ (kd = 2 ∧ decode cc pc = .ok (.invokespecial idx, 3))) (hX : zX own idx = some jd) (hk : kd = zxk jd) (h16 : (jd = 1006 ∨ jd = 1007) → 16 ≤ R.frames ∧ 1024 ≤ R.locals) (hz : zsp jd S M = some (S', M')) (hR : 1 ≤ R.frames ∧ 64 ≤ R.locals) (hr : zN M' - n0 ≤ R.cells ∧ zS M' - s0 ≤ R.slots)
    (kk : zGo p l e R s m args below meth c Q b nL n0 s0 sp cy D (pc + 3) L S' M') : zGo p l e R s m args below meth c Q b nL n0 s0 sp cy D pc L S M := by
  obtain ⟨hx, hb, hml, hown, hts, hK, hold, hini, hlocks⟩ := id hC
  have hl : Cond.methodLink (zRN own) idx (zXn jd) ∈ lw_tbl := zX_ok hX
  have hm := zsp_mono hz
  have hz0 := hz
  unfold zsp at hz
  split at hz
  · split at hz
    · rename_i h1
      simp only [Option.some.injEq, Prod.mk.injEq] at hz
      obtain ⟨rfl, rfl⟩ := hz
      have hd : decode cc pc = .ok (.invokespecial idx, 3) := by
        rcases hkd with ⟨h, -⟩ | ⟨h, -⟩ | ⟨-, h⟩
        · rw [h] at hk; exact absurd hk (by decide)
        · rw [h] at hk; exact absurd hk (by decide)
        · exact h
      intro H locs ls hW hS hL
      exact W.objInit hx hb hown (hts _ (zTs_of hl rfl)) (hts _ (zTs_of zw_objI rfl)) (hts _ (zTs_of zw_objC rfl)) rfl (by show ls.size = _; rw [hml]; exact hL.1) rfl hd hR.1 (by show 2 * 0 + ((_ : List Value).map fun v => v.category).sum + 12 ≤ _; rw [zcat_map]; omega) (kk H locs ls hW hS hL)
    · cases hz
  · split at hz
    · rename_i h1
      simp only [Option.some.injEq, Prod.mk.injEq] at hz
      obtain ⟨rfl, rfl⟩ := hz
      have hd : decode cc pc = .ok (.invokestatic idx, 3) := by
        rcases hkd with ⟨-, h⟩ | ⟨h, -⟩ | ⟨h, -⟩
        · exact h
        · rw [h] at hk; exact absurd hk (by decide)
        · rw [h] at hk; exact absurd hk (by decide)
      intro H locs ls hW hS hL
      exact va_mmin hx hb (by rw [hml]; exact hL.1.symm) hown (hts _ (zTs_of hl rfl)) (hts _ (zTs_of zw_minS rfl)) (hts _ (zTs_of zw_math rfl)) (hts _ (zTs_of zw_minC rfl)) hR.1 (by rw [zcat_map]; omega) hr.1 hr.2 hd (kk H locs ls hW hS hL)
    · cases hz
  · split at hz
    · rename_i h1
      simp only [Option.some.injEq, Prod.mk.injEq] at hz
      obtain ⟨rfl, rfl⟩ := hz
      have hd : decode cc pc = .ok (.invokestatic idx, 3) := by
        rcases hkd with ⟨-, h⟩ | ⟨h, -⟩ | ⟨h, -⟩
        · exact h
        · rw [h] at hk; exact absurd hk (by decide)
        · rw [h] at hk; exact absurd hk (by decide)
      intro H locs ls hW hS hL
      exact va_mmax hx hb (by rw [hml]; exact hL.1.symm) hown (hts _ (zTs_of hl rfl)) (hts _ (zTs_of zw_maxS rfl)) (hts _ (zTs_of zw_math rfl)) (hts _ (zTs_of zw_maxC rfl)) hR.1 (by rw [zcat_map]; omega) hr.1 hr.2 hd (kk H locs ls hW hS hL)
    · cases hz
  · split at hz
    · rename_i h1
      simp only [Option.some.injEq, Prod.mk.injEq] at hz
      obtain ⟨rfl, rfl⟩ := hz
      have hd : decode cc pc = .ok (.invokestatic idx, 3) := by
        rcases hkd with ⟨-, h⟩ | ⟨h, -⟩ | ⟨h, -⟩
        · exact h
        · rw [h] at hk; exact absurd hk (by decide)
        · rw [h] at hk; exact absurd hk (by decide)
      intro H locs ls hW hS hL
      exact va_mabs hx hb (by rw [hml]; exact hL.1.symm) hown (hts _ (zTs_of hl rfl)) (hts _ (zTs_of zw_absS rfl)) (hts _ (zTs_of zw_math rfl)) (hts _ (zTs_of zw_absC rfl)) hR.1 (by rw [zcat_map]; omega) hr.1 hr.2 hd (kk H locs ls hW hS hL)
    · cases hz
  · split at hz
    · rename_i h1
      simp only [Option.some.injEq, Prod.mk.injEq] at hz
      obtain ⟨rfl, rfl⟩ := hz
      have hd : decode cc pc = .ok (.invokestatic idx, 3) := by
        rcases hkd with ⟨-, h⟩ | ⟨h, -⟩ | ⟨h, -⟩
        · exact h
        · rw [h] at hk; exact absurd hk (by decide)
        · rw [h] at hk; exact absurd hk (by decide)
      intro H locs ls hW hS hL
      exact va_mmin_long hx hb (by rw [hml]; exact hL.1.symm) hown (hts _ (zTs_of hl rfl)) (hts _ (zTs_of zw_minlS rfl)) (hts _ (zTs_of zw_math rfl)) (hts _ (zTs_of zw_minlC rfl)) hR.1 (by rw [zcat_map]; omega) hr.1 hr.2 hd (kk H locs ls hW hS hL)
    · cases hz
  · split at hz
    · rename_i h1
      simp only [Option.some.injEq, Prod.mk.injEq] at hz
      obtain ⟨rfl, rfl⟩ := hz
      have hd : decode cc pc = .ok (.invokestatic idx, 3) := by
        rcases hkd with ⟨-, h⟩ | ⟨h, -⟩ | ⟨h, -⟩
        · exact h
        · rw [h] at hk; exact absurd hk (by decide)
        · rw [h] at hk; exact absurd hk (by decide)
      intro H locs ls hW hS hL
      exact va_mmax_long hx hb (by rw [hml]; exact hL.1.symm) hown (hts _ (zTs_of hl rfl)) (hts _ (zTs_of zw_maxlS rfl)) (hts _ (zTs_of zw_math rfl)) (hts _ (zTs_of zw_maxlC rfl)) hR.1 (by rw [zcat_map]; omega) hr.1 hr.2 hd (kk H locs ls hW hS hL)
    · cases hz
  · have hd : decode cc pc = .ok (.invokevirtual idx, 3) := by
      rcases hkd with ⟨h, -⟩ | ⟨-, h⟩ | ⟨h, -⟩
      · rw [h] at hk; exact absurd hk (by decide)
      · exact h
      · rw [h] at hk; exact absurd hk (by decide)
    exact hstr.2 _ _ _ _ _ _ _ _ _ _ _ _ _ _ _ _ _ _ _ _ _ _ _ _ hC hd hX (Or.inl rfl) hz0 ⟨(h16 (Or.inl rfl)).1, (h16 (Or.inl rfl)).2, by rw [hm.1]; exact hr.1, by rw [hm.2]; exact hr.2⟩ kk
  · have hd : decode cc pc = .ok (.invokevirtual idx, 3) := by
      rcases hkd with ⟨h, -⟩ | ⟨-, h⟩ | ⟨h, -⟩
      · rw [h] at hk; exact absurd hk (by decide)
      · exact h
      · rw [h] at hk; exact absurd hk (by decide)
    exact hstr.2 _ _ _ _ _ _ _ _ _ _ _ _ _ _ _ _ _ _ _ _ _ _ _ _ hC hd hX (Or.inr rfl) hz0 ⟨(h16 (Or.inr rfl)).1, (h16 (Or.inr rfl)).2, by rw [hm.1]; exact hr.1, by rw [hm.2]; exact hr.2⟩ kk
  · split at hz
    · rename_i h1
      simp only [Option.some.injEq, Prod.mk.injEq] at hz
      obtain ⟨rfl, rfl⟩ := hz
      have hd : decode cc pc = .ok (.invokestatic idx, 3) := by
        rcases hkd with ⟨-, h⟩ | ⟨h, -⟩ | ⟨h, -⟩
        · exact h
        · rw [h] at hk; exact absurd hk (by decide)
        · rw [h] at hk; exact absurd hk (by decide)
      obtain ⟨q1, q2, q3, q4, q5, q6, q7, q8⟩ := h1
      exact zcopy_go hC hd hX q1 q2 q3 q4 q5 q6 q7 q8 hR kk
    · cases hz
  · cases hz
end ZD
