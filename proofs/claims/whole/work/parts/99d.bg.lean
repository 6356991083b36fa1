/-! ===== what the Statement gives of the start ===== -/
abbrev ztItem : Term := .static RX1 "ITEM" "[I"
abbrev ztS5 : Term := .string RX5 95
abbrev ztS4 : Term := .string RX4 40
abbrev ztV5 : Term := .field ztS5 RJ0 "value" "[B"
def zKtl : List Int32 := [107, 102, 110, 118, 116, 111]
section ZGV
variable {args : Array Value} {s : State}
theorem zv_item (h : (Jvm.Cond.and given_1 narrow_1).before args s = true) : (Cond.arrayOf ztItem .int).before args s = true ∧ (Cond.eq (.length ztItem) (.int 48)).before args s = true := by
  have hs := flat_of_before _ h
  exact ⟨hs _ (by decide +kernel), hs _ (by decide +kernel)⟩
theorem zv_items (h : (Jvm.Cond.and given_1 narrow_1).before args s = true) : ∀ j, j < 48 → (Cond.eq (.elem ztItem (.int (Int32.ofNat j))) (.int (zitem j))).before args s = true := by
  have hs := flat_of_before _ h
  have hm : ∀ j, j < 48 → (Cond.eq (.elem ztItem (.int (Int32.ofNat j))) (.int (zitem j))) ∈ flatC (Jvm.Cond.and given_1 narrow_1) := by decide +kernel
  exact fun j hj => hs _ (hm j hj)
theorem zv_stat (h : (Jvm.Cond.and given_1 narrow_1).before args s = true) : (Cond.eq (.static RJ0 "COMPACT_STRINGS" "Z") (.int 1)).before args s = true ∧ (Cond.isRef (.static Bundle.tN "UNASSIGNED_STACK" Bundle.steD)).before args s = true ∧ (Cond.isRef (.static Bundle.tN "SUPPRESSED_SENTINEL" Bundle.listD)).before args s = true := by
  have hs := flat_of_before _ h
  exact ⟨hs _ (by decide +kernel), hs _ (by decide +kernel), hs _ (by decide +kernel)⟩
theorem zv_str (h : (Jvm.Cond.and given_1 narrow_1).before args s = true) : (Cond.exactly ztS5 RJ0).before args s = true ∧ (Cond.eq (.field ztS5 RJ0 "coder" "B") (.int 0)).before args s = true ∧ (Cond.arrayOf ztV5 .byte).before args s = true ∧ (Cond.eq (.length ztV5) (.int 6)).before args s = true ∧ (Cond.eq ztS5 ztS4).before args s = true := by
  have hs := flat_of_before _ h
  exact ⟨hs _ (by decide +kernel), hs _ (by decide +kernel), hs _ (by decide +kernel), hs _ (by decide +kernel), hs _ (by decide +kernel)⟩
theorem zv_strs (h : (Jvm.Cond.and given_1 narrow_1).before args s = true) : ∀ j, j < 6 → (Cond.eq (.elem ztV5 (.int (Int32.ofNat j))) (.int (zKtl.getD j 0))).before args s = true := by
  have hs := flat_of_before _ h
  have hm : ∀ j, j < 6 → (Cond.eq (.elem ztV5 (.int (Int32.ofNat j))) (.int (zKtl.getD j 0))) ∈ flatC (Jvm.Cond.and given_1 narrow_1) := by decide +kernel
  exact fun j hj => hs _ (hm j hj)
theorem zv_known (hts : ∀ w ∈ lw_tbl, w.before args s = true) : ∃ D : va_G, ∀ (c : Nat) (q : vw_C), vwCl[c]? = some q → u_Kn s q.1 q.2.1 q.2.2 (D.1 c) (D.2 c) := by
  have h : ∀ c, ∃ q : ClassId × (Nat → Nat), c < 13 → u_Kn s (zRN c) (zT c) (zNf c) q.1 q.2 := by
    intro c
    by_cases hc : c < 13
    · obtain ⟨C, T, N, h1, h2, h3, h4, h5, -, -, -, -, h10, -⟩ := zCk_ok hc
      obtain ⟨c0, iS, hK⟩ := u_known (C := C) (T := T) (N := N) (n := N) hts h5 (hts _ h10)
      have h6 : T = zT c := funext h4
      subst h2; subst h3; subst h6
      exact ⟨(c0, iS), fun _ => hK⟩
    · exact ⟨(0, fun _ => 0), fun q => absurd q hc⟩
  obtain ⟨F, hF⟩ := Classical.axiomOfChoice h
  refine ⟨(fun c => (F c).1, fun c => (F c).2), fun c q hq => ?_⟩
  have hc : c < 13 := (List.getElem?_eq_some_iff.mp hq).1
  cases (zCk_cl hc).symm.trans hq
  exact hF c hc
theorem zv_arr {ty : FieldType} (h : (Cond.arrayClass ty).before args s = true) : ∃ cA : ClassId, ArrOfT s cA ty ∧ s.vm.findClass ("[" ++ ty.toString) = some cA := by
  obtain ⟨c, k, comp, h1, h2, h3⟩ := Cond.arrayClass_spec h
  exact ⟨c, fun n z => ⟨fun k h => (by cases h), k, h2, comp, h3⟩, h1⟩
theorem zv_arrO {C : String} (h : (Cond.arrayOver (.object C)).before args s = true) : ∃ cA : ClassId, ArrOfT s cA (.object C) ∧ va_RA s cA (.object C) := by
  obtain ⟨comp, c, k, h1, -, h3, h4, h5⟩ := Cond.arrayOver_spec h
  exact ⟨c, fun n z => ⟨fun k h => (by cases h), k, h3, comp, h4⟩, k, comp, h3, h4, h1, h5⟩
theorem zv_o4 : Cond.arrayOver (.object RX4) ∈ lw_tbl := by decide +kernel
theorem zv_o8 : Cond.arrayOver (.object RX8) ∈ lw_tbl := by decide +kernel
theorem zv_K (hts : ∀ w ∈ lw_tbl, w.before args s = true) : ∃ (D : va_G) (cy : Nat → ClassId), va_K D vwCl (zTys cy) s := by
  obtain ⟨D, hD⟩ := zv_known hts
  obtain ⟨c1, a1, b1⟩ := zv_arr (hts _ zAc_int)
  obtain ⟨c2, a2, b2⟩ := zv_arr (hts _ zAc_bool)
  obtain ⟨c3, a3, b3⟩ := zv_arrO (hts _ zv_o4)
  obtain ⟨c4, a4, b4⟩ := zv_arrO (hts _ zv_o8)
  obtain ⟨c5, a5, b5⟩ := zv_arr (hts _ zAc_long)
  refine ⟨D, fun k => if k = 13 then c1 else if k = 14 then c2 else if k = 15 then c3 else if k = 16 then c4 else c5, hD, fun k q hq => ?_⟩
  match k, hq with
  | 0, hq => cases hq; exact ⟨a1, b1⟩
  | 1, hq => cases hq; exact ⟨a2, b2⟩
  | 2, hq => cases hq; exact ⟨a3, b3⟩
  | 3, hq => cases hq; exact ⟨a4, b4⟩
  | 4, hq => cases hq; exact ⟨a5, b5⟩
  | k + 5, hq => exact nomatch hq
theorem zv_A : ∀ a : Nat, a < s.heap.size → ¬ (fun q : Nat => s.heap.size ≤ q) a := fun a h => Nat.not_le.mpr h
theorem zv_ITEM (hts : ∀ w ∈ lw_tbl, w.before args s = true) (h : (Jvm.Cond.and given_1 narrow_1).before args s = true) : ∃ t : Nat, t < s.heap.size ∧ va_T .int t 48 (fun j => .int (zitem j)) (fun q => s.heap.size ≤ q) s s.heap ∧ va_Z RX1 "ITEM" "[I" (.ref t) (fun q => s.heap.size ≤ q) s s.heap := by
  obtain ⟨h1, h2⟩ := zv_item h
  obtain ⟨t, ht, hT⟩ := va_Tof (N := 48) (f := fun j => .int (zitem j)) (A := fun q : Nat => s.heap.size ≤ q) (by decide) h1 (va_eqt h2) (fun j hj => va_eqt (zv_items h j hj)) zv_A
  refine ⟨t, ?_, hT, va_Zof (hts _ (by decide +kernel)) (hts _ (by decide +kernel)) ht zv_A⟩
  obtain ⟨cell, h3, -⟩ := hT
  exact (Array.getElem?_eq_some_iff.mp h3).1
theorem zv_s4 : Cond.stringRef RX4 40 "kfnvto" ∈ lw_tbl := by decide +kernel
theorem zv_s5 : Cond.stringRef RX5 95 "kfnvto" ∈ lw_tbl := by decide +kernel
theorem zv_kt : ∀ j, j < 6 → zKtl.getD j 0 = zKt j := by decide +kernel
theorem zv_RX (hts : ∀ w ∈ lw_tbl, w.before args s = true) (h : (Jvm.Cond.and given_1 narrow_1).before args s = true) : ∃ q t : Nat, zRX s.heap.size q t s s.heap ∧ vk_R RX4 40 "kfnvto" q s ∧ vk_R RX5 95 "kfnvto" q s := by
  obtain ⟨h1, h2, h3, h4, h5⟩ := zv_str h
  obtain ⟨hz, -⟩ := zv_stat h
  obtain ⟨q, c, cA, kA, q1, q2, q3, q4, q5, q6, -⟩ := Cond.exactly_spec h1
  obtain ⟨t, ht, hT⟩ := va_Tof (N := 6) (f := fun j => .int (zKtl.getD j 0)) (A := fun q : Nat => s.heap.size ≤ q) (by decide) h3 (va_eqt h4) (fun j hj => va_eqt (zv_strs h j hj)) zv_A
  have e4 : ztS4.eval args s none [] s = some (.ref q) := va_eqR h5 q1
  refine ⟨q, t, ⟨⟨cA, q3, q5, by rw [q6]; exact q2, zv_A q (Array.getElem?_eq_some_iff.mp q3).1⟩, vk_OFof q1 (va_eqt h2) zv_A, vk_OFof q1 ht zv_A, hT, va_Zof (hts _ (by decide +kernel)) (hts _ (by decide +kernel)) (va_eqt hz) zv_A⟩, vk_R.of (hts _ zv_s4) e4, vk_R.of (hts _ zv_s5) q1⟩
theorem zv_bad (hts : ∀ w ∈ lw_tbl, w.before args s = true) : ∀ w ∈ zxBad, va_Nw w s := fun w hw => va_Nw.of (List.all_eq_true.mp zxBad_tab w hw) (hts w (zxAt_in w (List.mem_filter.mp hw).1))
theorem zv_nest (hts : ∀ w ∈ lw_tbl, w.before args s = true) : ∀ w ∈ zNests, va_Nw w s := by
  intro w hw
  obtain ⟨h1, h9⟩ := List.mem_filter.mp hw
  cases w <;> first | (simp at h9; done) | exact va_Nw.of rfl (hts _ h1)
theorem zv_XX (hts : ∀ w ∈ lw_tbl, w.before args s = true) (h : (Jvm.Cond.and given_1 narrow_1).before args s = true) : ∃ q t : Nat, zXX s.heap.size q t s s.heap := by
  obtain ⟨q, t, h1, h2, h3⟩ := zv_RX hts h
  obtain ⟨-, z1, z2⟩ := zv_stat h
  exact ⟨q, t, h1, h2, h3, vx_Zqof (hts _ (by decide +kernel)) (hts _ (by decide +kernel)) z1 zv_A, vx_Zqof (hts _ (by decide +kernel)) (hts _ (by decide +kernel)) z2 zv_A, zv_bad hts⟩
end ZGV
