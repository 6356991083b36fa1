/-! ===== the clean machine is sound: arrays, then every instruction ===== -/
theorem zAc_int : Cond.arrayClass .int ∈ lw_tbl := by decide +kernel
theorem zAc_bool : Cond.arrayClass .boolean ∈ lw_tbl := by decide +kernel
theorem zAc_long : Cond.arrayClass .long ∈ lw_tbl := by decide +kernel
section ZA
variable {p : Program} {l : Launch} {e : Env} {R : Room} {s : State} {m : MethodId} {args : Array Value} {below : List Frame} {meth : Method} {c : Code} {Q : State → Prop}
variable {cc : ByteArray} {b nL own n0 s0 pc pc' : Nat} {sp : UInt32 → Nat} {cy : Nat → ClassId} {D : va_G} {sc : zSc} {X : State → Heap → Prop} {ini : Bool} {L L' : List (Option Value)} {S S' : List Value} {M M' : zMem}
theorem znewa_go {t : ArrayType} {ty : FieldType} {kd : Nat} {n : Int32} {a0 : vp_A} (hC : zCx p s m args meth c cc nL own ini b sp cy D sc X) (hd : decode cc pc = .ok (.newarray t, 2)) (hty : newarray.typeOf t = ty) (harr : Cond.arrayClass ty ∈ lw_tbl) (hcy : s.vm.findClass ("[" ++ ty.toString) = some (cy kd))
    (hE : zE b sp cy (znew M kd n.toNatClampNeg n.toNatClampNeg) (zN M) = .inl (cy kd, a0)) (hcell : vp_cell (cy kd) a0 = arrV (cy kd) n.toNatClampNeg (fun _ => defaultValue ty)) (hb8 : componentBytes ty ≤ 8) (h0 : ¬ n < 0) (h1 : n.toNatClampNeg ≤ 1000000) (hn : n0 ≤ zN M ∧ s0 ≤ zS M) (hr : zN M + 1 - n0 ≤ R.cells ∧ zS M + n.toNatClampNeg - s0 ≤ R.slots)
    (kk : zGo p l e R s m args below meth c Q b nL n0 s0 sp cy D (pc + 2) L (.ref (zN M) :: S) (znew M kd n.toNatClampNeg n.toNatClampNeg)) : zGo p l e R s m args below meth c Q b nL n0 s0 sp cy D pc L (.int n :: S) M := by
  obtain ⟨hx, hb, hml, hown, hts, hK, hold, hini, hlocks⟩ := id hC
  subst hty
  intro H locs ls hW hS hL
  have hbytes : n.toNatClampNeg * componentBytes (newarray.typeOf t) ≤ 536870912 := Nat.le_trans (Nat.mul_le_mul h1 hb8) (Nat.le_of_ble_eq_true rfl)
  refine va_newaK hx hb (hts _ (zTs_of harr rfl)) rfl hd rfl h0 rfl hbytes (by omega) (by omega) hW.1 fun H1 cA e1 z1 o1 hAr hNm => ?_
  have hcA : cA = cy kd := Option.some.inj (hNm.symm.trans hcy)
  subst hcA
  have hW' : zWd b sp cy D (znew M kd n.toNatClampNeg n.toNatClampNeg) H1 := by
    refine hW.push z1 o1 ?_
    rw [hE]
    show H1[b + zN M]? = some (vp_cell (cy kd) a0)
    rw [hcell]
    exact e1
  have hS' : va_S (fun q => b ≤ q) s.heap H1 locs := ⟨Nat.le_trans hS.1 (by rw [z1, hW.1]; omega), fun x h1 h2 => (o1 x (by rw [← hW.1]; exact Nat.lt_of_lt_of_le h1 hS.1)).trans (hS.2.1 x h1 h2), hS.2.2⟩
  have h9 := kk H1 locs ls hW' hS' hL
  have e1 : zN (znew M kd n.toNatClampNeg n.toNatClampNeg) - n0 = zN M - n0 + 1 := by show zN M + 1 - n0 = _; omega
  have e2 : zS (znew M kd n.toNatClampNeg n.toNatClampNeg) - s0 = zS M - s0 + n.toNatClampNeg := by show zS M + n.toNatClampNeg - s0 = _; omega
  rw [e1, e2] at h9
  exact h9
theorem znewq_go {idx ci kd : Nat} {n : Int32} (hC : zCx p s m args meth c cc nL own ini b sp cy D sc X) (hd : decode cc pc = .ok (.anewarray idx, 3)) (hF : zKl own idx = some ci) (hAO : va_AO (zRN ci) s) (hcy : va_RA s (cy kd) (.object (zRN ci)))
    (hE : zE b sp cy (znew M kd n.toNatClampNeg n.toNatClampNeg) (zN M) = .inl (cy kd, n.toNatClampNeg, .inr (.inr (.inr (.inr (fun _ => none)))))) (h0 : ¬ n < 0) (h1 : n.toNatClampNeg ≤ 1000000) (hn : n0 ≤ zN M ∧ s0 ≤ zS M) (hr : zN M + 1 - n0 ≤ R.cells ∧ zS M + n.toNatClampNeg - s0 ≤ R.slots)
    (kk : zGo p l e R s m args below meth c Q b nL n0 s0 sp cy D (pc + 3) L (.ref (zN M) :: S) (znew M kd n.toNatClampNeg n.toNatClampNeg)) : zGo p l e R s m args below meth c Q b nL n0 s0 sp cy D pc L (.int n :: S) M := by
  obtain ⟨hx, hb, hml, hown, hts, hK, hold, hini, hlocks⟩ := id hC
  have hl : Cond.classLink (zRN own) idx (zRN ci) ∈ lw_tbl := (zKl_ok hF).1
  have hc : ci < 13 := (zKl_ok hF).2
  intro H locs ls hW hS hL
  refine W.anew hx hb hown (hts _ (zTs_of hl rfl)) (va_AO.use hAO) rfl hd rfl h0 (Nat.le_trans (Nat.mul_le_mul_right 4 h1) (Nat.le_of_ble_eq_true rfl)) (by omega) (by omega) fun cA kA comp f1 f2 f3 f4 => ?_
  generalize hH1 : H.push ({ cls := cA, slots := Array.replicate n.toNatClampNeg .null, vm := .none } : Cell) = H1
  have z1 : H1.size = H.size + 1 := by rw [← hH1, Array.size_push]
  have e1 : H1[H.size]? = some (arrV cA n.toNatClampNeg (fun _ => .null)) := by rw [← hH1, Array.getElem?_push_size, ← arrV_new]
  have o1 : ∀ q : Nat, q < H.size → H1[q]? = H[q]? := fun q hq => by rw [← hH1, Array.getElem?_push, if_neg (Nat.ne_of_lt hq)]
  obtain ⟨_, _, _, _, _, h4⟩ := hcy
  have hcA : cA = cy kd := Option.some.inj (f1.symm.trans h4)
  subst hcA
  rw [hW.1] at e1 o1
  have hW' : zWd b sp cy D (znew M kd n.toNatClampNeg n.toNatClampNeg) H1 := by
    refine hW.push (by rw [z1, hW.1]) o1 ?_
    rw [hE]
    show H1[b + zN M]? = some (vp_cell _ _)
    rw [vp_cell_q]
    exact e1
  have hS' : va_S (fun q => b ≤ q) s.heap H1 locs := ⟨Nat.le_trans hS.1 (by rw [z1]; omega), fun x h1 h2 => (o1 x (by rw [← hW.1]; exact Nat.lt_of_lt_of_le h1 hS.1)).trans (hS.2.1 x h1 h2), hS.2.2⟩
  have h9 := kk H1 locs ls hW' hS' hL
  have e1 : zN (znew M kd n.toNatClampNeg n.toNatClampNeg) - n0 = zN M - n0 + 1 := by show zN M + 1 - n0 = _; omega
  have e2 : zS (znew M kd n.toNatClampNeg n.toNatClampNeg) - s0 = zS M - s0 + n.toNatClampNeg := by show zS M + n.toNatClampNeg - s0 = _; omega
  rw [e1, e2] at h9
  rw [hW.1]
  exact h9
theorem ziast_go {a : Nat} {j x : Int32} (hC : zCx p s m args meth c cc nL own ini b sp cy D sc X) (hd : decode cc pc = .ok (.iastore, 1)) (hi : zin M a 13 j = true)
    (kk : zGo p l e R s m args below meth c Q b nL n0 s0 sp cy D (pc + 1) L S (zsetI M a j.toNatClampNeg x)) : zGo p l e R s m args below meth c Q b nL n0 s0 sp cy D pc L (.int x :: .int j :: .ref a :: S) M := by
  obtain ⟨hx, hb, hml, hown, hts, hK, hold, hini, hlocks⟩ := id hC
  obtain ⟨h2, h3⟩ := zin_spec hi
  intro H locs ls hW hS hL
  have ha : H[b + a]? = some (vp_cell (cy 13) ((zK M a).2, .inl (zI M a))) := by
    have := (hW.2 a (by rw [h2]; decide)).2
    rw [zE_13 h2] at this
    exact this
  refine W.iast hx hb ha ((hK.2 0 _ rfl).1 (zK M a).2 (fun j => .int (zI M a j))) (fun q => by cases q) (by show ¬ (j < 0 ∨ (arrV _ _ _).slots.size ≤ _); rw [arrV_size]; exact h3) rfl rfl hd fun H1 e z oq => ?_
  have hW' : zWd b sp cy D (zsetI M a j.toNatClampNeg x) H1 := by
    refine hW.upd z oq rfl rfl (fun k hk => zE_congr rfl rfl (zup_ne hk) rfl) ?_
    rw [zE_13 (M := zsetI M a j.toNatClampNeg x) h2]
    show H1[b + a]? = some (vp_cell _ _)
    rw [e, vp_cell_i, vp_cell_i, arrV_store]
    congr 2
    funext q
    show _ = Value.int (zup M.2.2.2.1 a j.toNatClampNeg x a q)
    by_cases hq : q = j.toNatClampNeg
    · subst hq
      simp [updV, zup]
    · simp [updV, zup, hq]
  exact kk H1 _ ls hW' (hS.put z oq (Nat.le_add_right _ _)) hL
theorem zbast_go {a : Nat} {j x : Int32} (hC : zCx p s m args meth c cc nL own ini b sp cy D sc X) (hd : decode cc pc = .ok (.bastore, 1)) (hi : zin M a 14 j = true) (hx01 : x = 0 ∨ x = 1)
    (kk : zGo p l e R s m args below meth c Q b nL n0 s0 sp cy D (pc + 1) L S (zsetI M a j.toNatClampNeg x)) : zGo p l e R s m args below meth c Q b nL n0 s0 sp cy D pc L (.int x :: .int j :: .ref a :: S) M := by
  obtain ⟨hx, hb, hml, hown, hts, hK, hold, hini, hlocks⟩ := id hC
  obtain ⟨h2, h3⟩ := zin_spec hi
  intro H locs ls hW hS hL
  have ha : H[b + a]? = some (vp_cell (cy 14) ((zK M a).2, .inl (zI M a))) := by
    have := (hW.2 a (by rw [h2]; decide)).2
    rw [zE_14 h2] at this
    exact this
  refine W.zast hx hb ha ((hK.2 1 _ rfl).1 (zK M a).2 (fun j => .int (zI M a j))) (fun q => by cases q) (by show ¬ (j < 0 ∨ (arrV _ _ _).slots.size ≤ _); rw [arrV_size]; exact h3) rfl rfl hd fun H1 e z oq => ?_
  have hn : narrow .boolean (.int x) = .int x := by rcases hx01 with rfl | rfl <;> rfl
  rw [hn] at e
  have hW' : zWd b sp cy D (zsetI M a j.toNatClampNeg x) H1 := by
    refine hW.upd z oq rfl rfl (fun k hk => zE_congr rfl rfl (zup_ne hk) rfl) ?_
    rw [zE_14 (M := zsetI M a j.toNatClampNeg x) h2]
    show H1[b + a]? = some (vp_cell _ _)
    rw [e, vp_cell_i, vp_cell_i, arrV_store]
    congr 2
    funext q
    show _ = Value.int (zup M.2.2.2.1 a j.toNatClampNeg x a q)
    by_cases hq : q = j.toNatClampNeg
    · subst hq
      simp [updV, zup]
    · simp [updV, zup, hq]
  exact kk H1 _ ls hW' (hS.put z oq (Nat.le_add_right _ _)) hL
theorem zlast_go {a : Nat} {j : Int32} {x : Int64} (hC : zCx p s m args meth c cc nL own ini b sp cy D sc X) (hd : decode cc pc = .ok (.lastore, 1)) (hi : zin M a 17 j = true)
    (kk : zGo p l e R s m args below meth c Q b nL n0 s0 sp cy D (pc + 1) L S (zsetJ M a j.toNatClampNeg x)) : zGo p l e R s m args below meth c Q b nL n0 s0 sp cy D pc L (.long x :: .int j :: .ref a :: S) M := by
  obtain ⟨hx, hb, hml, hown, hts, hK, hold, hini, hlocks⟩ := id hC
  obtain ⟨h2, h3⟩ := zin_spec hi
  intro H locs ls hW hS hL
  have ha : H[b + a]? = some (vp_cell (cy 17) ((zK M a).2, .inr (.inl (zJ M a)))) := by
    have := (hW.2 a (by rw [h2]; decide)).2
    rw [zE_17 h2] at this
    exact this
  refine W.last hx hb ha ((hK.2 4 _ rfl).1 (zK M a).2 (fun j => .long (zJ M a j))) (fun q => by cases q) (by show ¬ (j < 0 ∨ (arrV _ _ _).slots.size ≤ _); rw [arrV_size]; exact h3) rfl rfl hd fun H1 e z oq => ?_
  have hW' : zWd b sp cy D (zsetJ M a j.toNatClampNeg x) H1 := by
    refine hW.upd z oq rfl rfl (fun k hk => zE_congr rfl rfl rfl (zup_ne hk)) ?_
    rw [zE_17 (M := zsetJ M a j.toNatClampNeg x) h2]
    show H1[b + a]? = some (vp_cell _ _)
    rw [e, vp_cell_l, vp_cell_l, arrV_store]
    congr 2
    funext q
    show _ = Value.long (zup M.2.2.2.2 a j.toNatClampNeg x a q)
    by_cases hq : q = j.toNatClampNeg
    · subst hq
      simp [updV, zup]
    · simp [updV, zup, hq]
  exact kk H1 _ ls hW' (hS.put z oq (Nat.le_add_right _ _)) hL
theorem zrf_map (b : Nat) (r : Option Nat) (sp : UInt32 → Nat) : va_rf (r.map (fun q => b + q)) = zt b sp (zrv r) := by cases r <;> rfl
theorem zaast_go {a v kd cv : Nat} {j : Int32} (hkd : kd < 99) (hC : zCx p s m args meth c cc nL own ini b sp cy D sc X) (hd : decode cc pc = .ok (.aastore, 1)) (hi : zin M a kd j = true) (hv : zisO M v cv = true) (hcv : cv < 13)
    (hE : ∀ M : zMem, (zK M a).1 = kd → zE b sp cy M a = .inl (cy kd, (zK M a).2, .inr (.inr (.inr (.inr (fun j => (zR M a j).map (fun r => b + r))))))) (hcy : va_RA s (cy kd) (.object (zRN cv)))
    (kk : zGo p l e R s m args below meth c Q b nL n0 s0 sp cy D (pc + 1) L S (zsetR M a j.toNatClampNeg (some v))) : zGo p l e R s m args below meth c Q b nL n0 s0 sp cy D pc L (.ref v :: .int j :: .ref a :: S) M := by
  obtain ⟨hx, hb, hml, hown, hts, hK, hold, hini, hlocks⟩ := id hC
  obtain ⟨h2, h3⟩ := zin_spec hi
  have g2 := zisO_spec hv
  intro H locs ls hW hS hL
  have ha : H[b + a]? = some (vp_cell (cy kd) ((zK M a).2, .inr (.inr (.inr (.inr (fun j => (zR M a j).map (fun r => b + r))))))) := by
    have := (hW.2 a (by rw [h2]; exact hkd)).2
    rw [hE M h2] at this
    exact this
  have hvv := (hW.2 v (by rw [g2]; omega)).2
  rw [zE_obj g2 hcv] at hvv
  obtain ⟨r', hr', cellV, w1, w2, w3, -⟩ := hvv
  have hr : r' = (zRN cv, zT cv, zNf cv) := Option.some.inj (hr'.symm.trans (zCk_cl hcv))
  subst hr
  have hcls := (hK.1 cv _ (zCk_cl hcv)).2
  obtain ⟨kA, comp, k1, k2, k3, -⟩ := hcy
  have hcomp : comp = D.1 cv := Option.some.inj (k3.symm.trans hcls.1)
  subst hcomp
  obtain ⟨kC, hkC, -⟩ := hcls.2
  have hlt : j.toNatClampNeg < (zK M a).2 := Nat.not_le.mp fun q => h3 (Or.inr q)
  have h0 : ¬ j < 0 := fun q => h3 (Or.inl q)
  refine W.aast hx hb ha (fun q h => by cases h) (fun h => by cases h) k1 k2 rfl hkC ⟨h0, by show _ < (arrV _ _ _).slots.size; rw [arrV_size]; exact hlt⟩ w1 (fun q h => by rw [w3] at h; cases h) (by rw [w2]; exact hkC) (by rw [w2]; exact va_assign hcls) rfl rfl hd fun H1 e z oq => ?_
  have hW' : zWd b sp cy D (zsetR M a j.toNatClampNeg (some v)) H1 := by
    refine hW.upd z oq rfl rfl (fun k hk => zE_congr rfl (zup_ne hk) rfl rfl) ?_
    rw [hE (zsetR M a j.toNatClampNeg (some v)) h2]
    show H1[b + a]? = some (vp_cell _ _)
    rw [e, vp_cell_q, vp_cell_q, arrV_store]
    congr 2
    funext q
    show _ = va_rf (Option.map _ (zup M.2.2.1 a j.toNatClampNeg (some v) a q))
    by_cases hq : q = j.toNatClampNeg
    · subst hq
      simp [updV, zup, va_rf]
    · simp [updV, zup, hq]
  exact kk H1 _ ls hW' (hS.put z oq (Nat.le_add_right _ _)) hL
end ZA
