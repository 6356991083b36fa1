/-! ===== the clean machine is sound: every instruction but calls and returns ===== -/
theorem zSf : Cond.fieldLink (zRN 1) 56 RX1 "ITEM" "[I" ∈ lw_tbl := List.mem_of_getElem? (i := 533) (by decide +kernel)
/-- what the text "kfnvto" owes -/
def zStr (l : Launch) (b : Nat) (sp : UInt32 → Nat) (cy : Nat → ClassId) (D : va_G) (sc : zSc) (X : State → Heap → Prop) : Prop :=
  (∀ (p : Program) (e : Env) (R : Room) (s : State) (m : MethodId) (args : Array Value) (below : List Frame) (meth : Method) (c : Code) (Q : State → Prop) (cc : ByteArray) (nL own : Nat) (ini : Bool) (n0 s0 pc idx : Nat) (L : List (Option Value)) (S : List Value) (M : zMem),
    zCx p s m args meth c cc nL own ini b sp cy D sc X → decode cc pc = .ok (.ldc idx, 2) → (own = 4 ∧ idx = 40) ∨ (own = 5 ∧ idx = 95) → zGo p l e R s m args below meth c Q b nL n0 s0 sp cy D (pc + 2) L (.float 2 :: S) M → zGo p l e R s m args below meth c Q b nL n0 s0 sp cy D pc L S M) ∧
  (∀ (p : Program) (e : Env) (R : Room) (s : State) (m : MethodId) (args : Array Value) (below : List Frame) (meth : Method) (c : Code) (Q : State → Prop) (cc : ByteArray) (nL own : Nat) (ini : Bool) (n0 s0 pc idx id : Nat) (L : List (Option Value)) (S S' : List Value) (M M' : zMem),
    zCx p s m args meth c cc nL own ini b sp cy D sc X → decode cc pc = .ok (.invokevirtual idx, 3) → zX own idx = some id → (id = 1006 ∨ id = 1007) → zsp id S M = some (S', M') → 16 ≤ R.frames ∧ 1024 ≤ R.locals ∧ zN M - n0 ≤ R.cells ∧ zS M - s0 ≤ R.slots → zGo p l e R s m args below meth c Q b nL n0 s0 sp cy D (pc + 3) L S' M' → zGo p l e R s m args below meth c Q b nL n0 s0 sp cy D pc L S M)
theorem znew_K (M : zMem) (kd len sl : Nat) : zK (znew M kd len sl) (zN M) = (kd, len) := if_pos rfl
theorem znew_R (M : zMem) (kd len sl : Nat) : zR (znew M kd len sl) (zN M) = fun _ => none := zrow_eq
theorem znew_I (M : zMem) (kd len sl : Nat) : zI (znew M kd len sl) (zN M) = fun _ => 0 := zrow_eq
theorem znew_J (M : zMem) (kd len sl : Nat) : zJ (znew M kd len sl) (zN M) = fun _ => 0 := zrow_eq
section ZB
variable {p : Program} {l : Launch} {e : Env} {R : Room} {s : State} {m : MethodId} {args : Array Value} {below : List Frame} {meth : Method} {c : Code} {Q : State → Prop}
variable {cc : ByteArray} {b nL own n0 s0 pc pc' : Nat} {sp : UInt32 → Nat} {cy : Nat → ClassId} {D : va_G} {sc : zSc} {X : State → Heap → Prop} {ini : Bool} {L L' : List (Option Value)} {S S' : List Value} {M M' : zMem}
set_option maxHeartbeats 4000000 in
theorem zst_go {i : Instr} {len : Nat} (hstr : zStr l b sp cy D sc X) (hC : zCx p s m args meth c cc nL own ini b sp cy D sc X) (hd : decode cc pc = .ok (i, len)) (hw : zwf i len = true) (hz : zst own ini sc pc i L S M = some (pc', L', S', M')) (hn : n0 ≤ zN M ∧ s0 ≤ zS M) (hr : zN M' - n0 ≤ R.cells ∧ zS M' - s0 ≤ R.slots)
    (k : zGo p l e R s m args below meth c Q b nL n0 s0 sp cy D pc' L' S' M') : zGo p l e R s m args below meth c Q b nL n0 s0 sp cy D pc L S M := by
  obtain ⟨hx, hb, hml, hown, hts, hK, hold, hini, hlocks⟩ := id hC
  cases i
  case iconst n =>
    have hl := of_decide_eq_true hw
    subst hl
    simp only [zst, Option.some.injEq, Prod.mk.injEq] at hz
    obtain ⟨rfl, rfl, rfl, rfl⟩ := hz
    intro H locs ls hW hS hL
    exact lv_iconst hx hb hd rfl (k H locs ls hW hS hL)
  case bipush n =>
    have hl := of_decide_eq_true hw
    subst hl
    simp only [zst, Option.some.injEq, Prod.mk.injEq] at hz
    obtain ⟨rfl, rfl, rfl, rfl⟩ := hz
    intro H locs ls hW hS hL
    exact lv_bipush hx hb hd rfl (k H locs ls hW hS hL)
  case sipush n =>
    have hl := of_decide_eq_true hw
    subst hl
    simp only [zst, Option.some.injEq, Prod.mk.injEq] at hz
    obtain ⟨rfl, rfl, rfl, rfl⟩ := hz
    intro H locs ls hW hS hL
    exact lv_sipush hx hb hd rfl (k H locs ls hW hS hL)
  case lconst n =>
    have hl := of_decide_eq_true hw
    subst hl
    simp only [zst, Option.some.injEq, Prod.mk.injEq] at hz
    obtain ⟨rfl, rfl, rfl, rfl⟩ := hz
    intro H locs ls hW hS hL
    exact lv_lconst hx hb hd rfl (k H locs ls hW hS hL)
  case aconst_null =>
    have hl := of_decide_eq_true hw
    subst hl
    simp only [zst, Option.some.injEq, Prod.mk.injEq] at hz
    obtain ⟨rfl, rfl, rfl, rfl⟩ := hz
    intro H locs ls hW hS hL
    exact lv_null hx hb hd (k H locs ls hW hS hL)
  case iload_n i =>
    have hl := of_decide_eq_true hw
    subst hl
    exact zil_go hz (fun H locs ls rest x hl h => lv_iload_n hx hb hd rfl hl h) k
  case iload i =>
    have hl := of_decide_eq_true hw
    subst hl
    exact zil_go hz (fun H locs ls rest x hl h => lv_iload hx hb hd hl h) k
  case lload_n i =>
    have hl := of_decide_eq_true hw
    subst hl
    exact zll_go hz (fun H locs ls rest x hl h => lv_lload_n hx hb hd rfl hl h) k
  case lload i =>
    have hl := of_decide_eq_true hw
    subst hl
    exact zll_go hz (fun H locs ls rest x hl h => lv_lload hx hb hd hl h) k
  case aload_n i =>
    have hl := of_decide_eq_true hw
    subst hl
    exact zal_go hz (fun H locs ls rest x hl h => lv_aload_n hx hb hd rfl hl h) (fun H locs ls rest hl h => lv_aload_nN hx hb hd rfl hl h) k
  case aload i =>
    have hl := of_decide_eq_true hw
    subst hl
    exact zal_go hz (fun H locs ls rest x hl h => lv_aload hx hb hd hl h) (fun H locs ls rest hl h => lv_aloadN hx hb hd hl h) k
  case istore_n i =>
    have hl := of_decide_eq_true hw
    subst hl
    exact zis_go hz (fun H locs ls rest x lv hl hn h => lv_istore_n hx hb hd rfl hl hn rfl h) k
  case istore i =>
    have hl := of_decide_eq_true hw
    subst hl
    exact zis_go hz (fun H locs ls rest x lv hl hn h => lv_istore hx hb hd hl hn rfl h) k
  case lstore_n i =>
    have hl := of_decide_eq_true hw
    subst hl
    exact zls_go hz (fun H locs ls rest x lv hl hn h => lv_lstore_n hx hb hd rfl hl hn rfl h) k
  case lstore i =>
    have hl := of_decide_eq_true hw
    subst hl
    exact zls_go hz (fun H locs ls rest x lv hl hn h => lv_lstore hx hb hd hl hn rfl h) k
  case astore_n i =>
    have hl := of_decide_eq_true hw
    subst hl
    exact zas_go hz (fun H locs ls rest x lv hl hn h => lv_astore_n hx hb hd rfl hl hn rfl h) (fun H locs ls rest lv hl hn h => lv_astore_nN hx hb hd rfl hl hn rfl h) k
  case astore i =>
    have hl := of_decide_eq_true hw
    subst hl
    exact zas_go hz (fun H locs ls rest x lv hl hn h => lv_astore hx hb hd hl hn rfl h) (fun H locs ls rest lv hl hn h => lv_astoreN hx hb hd hl hn rfl h) k
  case iinc i n =>
    have hl := of_decide_eq_true hw
    subst hl
    simp only [zst] at hz
    split at hz
    · rename_i x h0
      split at hz
      · rename_i h1
        simp only [Option.some.injEq, Prod.mk.injEq] at hz
        obtain ⟨rfl, rfl, rfl, rfl⟩ := hz
        intro H locs ls hW hS hL
        obtain ⟨q, hq⟩ := List.getElem?_of_mem (zasc_mem (b := b) (sp := sp) h0)
        exact lv_iinc hx hb hd hL.has hq rfl (by rw [← hL.2.2.1]; exact h1) rfl (fun ls' h' => k H locs ls' hW hS (zLR.st1 (v := .int _) hL.2.2.1 h'))
      · cases hz
    · cases hz
  case iadd =>
    have hl := of_decide_eq_true hw
    subst hl
    exact zi2_go hz (fun H locs ls rest x y h => lv_iadd hx hb hd h) k
  case isub =>
    have hl := of_decide_eq_true hw
    subst hl
    exact zi2_go hz (fun H locs ls rest x y h => lv_isub hx hb hd h) k
  case imul =>
    have hl := of_decide_eq_true hw
    subst hl
    exact zi2_go hz (fun H locs ls rest x y h => lv_imul hx hb hd h) k
  case iand =>
    have hl := of_decide_eq_true hw
    subst hl
    exact zi2_go hz (fun H locs ls rest x y h => lv_iand hx hb hd h) k
  case ior =>
    have hl := of_decide_eq_true hw
    subst hl
    exact zi2_go hz (fun H locs ls rest x y h => lv_ior hx hb hd h) k
  case ixor =>
    have hl := of_decide_eq_true hw
    subst hl
    exact zi2_go hz (fun H locs ls rest x y h => lv_ixor hx hb hd h) k
  case ishl =>
    have hl := of_decide_eq_true hw
    subst hl
    exact zi2_go hz (fun H locs ls rest x y h => lv_ishl hx hb hd h) k
  case ishr =>
    have hl := of_decide_eq_true hw
    subst hl
    exact zi2_go hz (fun H locs ls rest x y h => lv_ishr hx hb hd h) k
  case iushr =>
    have hl := of_decide_eq_true hw
    subst hl
    exact zi2_go hz (fun H locs ls rest x y h => lv_iushr hx hb hd rfl h) k
  case idiv =>
    have hl := of_decide_eq_true hw
    subst hl
    exact zid_go hz (fun H locs ls rest x y h0 h => lv_idiv hx hb hd h0 h) k
  case irem =>
    have hl := of_decide_eq_true hw
    subst hl
    exact zid_go hz (fun H locs ls rest x y h0 h => lv_irem hx hb hd h0 h) k
  case ineg =>
    have hl := of_decide_eq_true hw
    subst hl
    exact zi1_go hz (fun H locs ls rest x h => lv_ineg hx hb hd h) k
  case i2l =>
    have hl := of_decide_eq_true hw
    subst hl
    exact zi1_go hz (fun H locs ls rest x h => lv_i2l hx hb hd rfl h) k
  case i2c =>
    have hl := of_decide_eq_true hw
    subst hl
    exact zi1_go hz (fun H locs ls rest x h => lv_i2c hx hb hd rfl h) k
  case l2i =>
    have hl := of_decide_eq_true hw
    subst hl
    simp only [zst] at hz
    split at hz
    · simp only [Option.some.injEq, Prod.mk.injEq] at hz
      obtain ⟨rfl, rfl, rfl, rfl⟩ := hz
      intro H locs ls hW hS hL
      exact lv_l2i hx hb hd rfl (k H locs ls hW hS hL)
    · cases hz
  case ladd =>
    have hl := of_decide_eq_true hw
    subst hl
    exact zl2_go hz (fun H locs ls rest x y h => lv_ladd hx hb hd h) k
  case lsub =>
    have hl := of_decide_eq_true hw
    subst hl
    exact zl2_go hz (fun H locs ls rest x y h => lv_lsub hx hb hd h) k
  case lmul =>
    have hl := of_decide_eq_true hw
    subst hl
    exact zl2_go hz (fun H locs ls rest x y h => lv_lmul hx hb hd h) k
  case land =>
    have hl := of_decide_eq_true hw
    subst hl
    exact zl2_go hz (fun H locs ls rest x y h => lv_land hx hb hd h) k
  case lor =>
    have hl := of_decide_eq_true hw
    subst hl
    exact zl2_go hz (fun H locs ls rest x y h => lv_lor hx hb hd h) k
  case ldiv =>
    have hl := of_decide_eq_true hw
    subst hl
    exact zldn_go hz (fun H locs ls rest x y h0 h => lv_ldiv hx hb hd h0 h) k
  case lrem =>
    have hl := of_decide_eq_true hw
    subst hl
    exact zldn_go hz (fun H locs ls rest x y h0 h => lv_lrem hx hb hd h0 h) k
  case lshl =>
    have hl := of_decide_eq_true hw
    subst hl
    exact zlsh_go hz (fun H locs ls rest x y h => lv_lshl hx hb hd rfl h) k
  case lushr =>
    have hl := of_decide_eq_true hw
    subst hl
    exact zlsh_go hz (fun H locs ls rest x y h => lv_lushr hx hb hd rfl h) k
  case lcmp =>
    have hl := of_decide_eq_true hw
    subst hl
    simp only [zst] at hz
    split at hz
    · simp only [Option.some.injEq, Prod.mk.injEq] at hz
      obtain ⟨rfl, rfl, rfl, rfl⟩ := hz
      intro H locs ls hW hS hL
      exact W.lcmp hx hb hd (k H locs ls hW hS hL)
    · cases hz
  case dup =>
    have hl := of_decide_eq_true hw
    subst hl
    simp only [zst] at hz
    split at hz
    · split at hz
      · rename_i h1
        simp only [Option.some.injEq, Prod.mk.injEq] at hz
        obtain ⟨rfl, rfl, rfl, rfl⟩ := hz
        intro H locs ls hW hS hL
        exact lv_dup hx hb hd (by rw [zt_cat]; exact h1) (k H locs ls hW hS hL)
      · cases hz
    · cases hz
  case dup2 =>
    have hl := of_decide_eq_true hw
    subst hl
    simp only [zst] at hz
    split at hz
    · split at hz
      · rename_i h1
        simp only [Option.some.injEq, Prod.mk.injEq] at hz
        obtain ⟨rfl, rfl, rfl, rfl⟩ := hz
        intro H locs ls hW hS hL
        exact lv_dup2_11 hx hb hd (by rw [zt_cat]; exact h1.1) (by rw [zt_cat]; exact h1.2) (k H locs ls hW hS hL)
      · cases hz
    · cases hz
  case pop =>
    have hl := of_decide_eq_true hw
    subst hl
    simp only [zst] at hz
    split at hz
    · split at hz
      · rename_i h1
        simp only [Option.some.injEq, Prod.mk.injEq] at hz
        obtain ⟨rfl, rfl, rfl, rfl⟩ := hz
        intro H locs ls hW hS hL
        exact lv_pop hx hb hd (by rw [zt_cat]; exact h1) (k H locs ls hW hS hL)
      · cases hz
    · cases hz
  case goto off =>
    have hl := of_decide_eq_true hw
    subst hl
    simp only [zst] at hz
    obtain ⟨t, ht, he⟩ := Option.map_eq_some_iff.mp hz
    simp only [Prod.mk.injEq] at he
    obtain ⟨rfl, rfl, rfl, rfl⟩ := he
    intro H locs ls hW hS hL
    exact lv_goto hx hb hd (zjmp_spec ht) (k H locs ls hW hS hL)
  case if_icmp cd off =>
    have hl := of_decide_eq_true hw
    subst hl
    simp only [zst] at hz
    split at hz
    · rename_i y x r t ht
      have ht := zjmp_spec ht
      split at hz
      · rename_i h1
        simp only [Option.some.injEq, Prod.mk.injEq] at hz
        obtain ⟨rfl, rfl, rfl, rfl⟩ := hz
        intro H locs ls hW hS hL
        cases cd with
        | eq => exact lv_icmp_eq hx hb hd ht (fun _ => k H locs ls hW hS hL) (fun hn => absurd (of_decide_eq_true (p := x = y) h1) hn)
        | ne => exact lv_icmp_ne hx hb hd ht (fun _ => k H locs ls hW hS hL) (fun hn => absurd hn (of_decide_eq_true (p := ¬ x = y) h1))
        | lt => exact lv_icmp_lt hx hb hd ht (fun _ => k H locs ls hW hS hL) (fun hn => absurd (of_decide_eq_true (p := x < y) h1) hn)
        | ge => exact lv_icmp_ge hx hb hd ht (fun _ => k H locs ls hW hS hL) (fun hn => absurd (of_decide_eq_true (p := y ≤ x) h1) hn)
        | gt => exact lv_icmp_gt hx hb hd ht (fun _ => k H locs ls hW hS hL) (fun hn => absurd (of_decide_eq_true (p := y < x) h1) hn)
        | le => exact lv_icmp_le hx hb hd ht (fun _ => k H locs ls hW hS hL) (fun hn => absurd (of_decide_eq_true (p := x ≤ y) h1) hn)
      · rename_i h1
        simp only [Option.some.injEq, Prod.mk.injEq] at hz
        obtain ⟨rfl, rfl, rfl, rfl⟩ := hz
        intro H locs ls hW hS hL
        cases cd with
        | eq => exact lv_icmp_eq hx hb hd ht (fun hp => absurd (decide_eq_true (p := x = y) hp) h1) (fun _ => k H locs ls hW hS hL)
        | ne => exact lv_icmp_ne hx hb hd ht (fun hp => absurd (decide_eq_true (p := ¬ x = y) hp) h1) (fun _ => k H locs ls hW hS hL)
        | lt => exact lv_icmp_lt hx hb hd ht (fun hp => absurd (decide_eq_true (p := x < y) hp) h1) (fun _ => k H locs ls hW hS hL)
        | ge => exact lv_icmp_ge hx hb hd ht (fun hp => absurd (decide_eq_true (p := y ≤ x) hp) h1) (fun _ => k H locs ls hW hS hL)
        | gt => exact lv_icmp_gt hx hb hd ht (fun hp => absurd (decide_eq_true (p := y < x) hp) h1) (fun _ => k H locs ls hW hS hL)
        | le => exact lv_icmp_le hx hb hd ht (fun hp => absurd (decide_eq_true (p := x ≤ y) hp) h1) (fun _ => k H locs ls hW hS hL)
    · cases hz
  case ifCond cd off =>
    have hl := of_decide_eq_true hw
    subst hl
    simp only [zst] at hz
    split at hz
    · rename_i x r t ht
      have ht := zjmp_spec ht
      split at hz
      · rename_i h1
        simp only [Option.some.injEq, Prod.mk.injEq] at hz
        obtain ⟨rfl, rfl, rfl, rfl⟩ := hz
        intro H locs ls hW hS hL
        cases cd with
        | eq => exact lv_if_eq hx hb hd ht (fun _ => k H locs ls hW hS hL) (fun hn => absurd (of_decide_eq_true (p := x = 0) h1) hn)
        | ne => exact lv_if_ne hx hb hd ht (fun _ => k H locs ls hW hS hL) (fun hn => absurd hn (of_decide_eq_true (p := ¬ x = 0) h1))
        | lt => exact lv_if_lt hx hb hd ht (fun _ => k H locs ls hW hS hL) (fun hn => absurd (of_decide_eq_true (p := x < 0) h1) hn)
        | ge => exact lv_if_ge hx hb hd ht (fun _ => k H locs ls hW hS hL) (fun hn => absurd (of_decide_eq_true (p := 0 ≤ x) h1) hn)
        | gt => exact lv_if_gt hx hb hd ht (fun _ => k H locs ls hW hS hL) (fun hn => absurd (of_decide_eq_true (p := 0 < x) h1) hn)
        | le => exact lv_if_le hx hb hd ht (fun _ => k H locs ls hW hS hL) (fun hn => absurd (of_decide_eq_true (p := x ≤ 0) h1) hn)
      · rename_i h1
        simp only [Option.some.injEq, Prod.mk.injEq] at hz
        obtain ⟨rfl, rfl, rfl, rfl⟩ := hz
        intro H locs ls hW hS hL
        cases cd with
        | eq => exact lv_if_eq hx hb hd ht (fun hp => absurd (decide_eq_true (p := x = 0) hp) h1) (fun _ => k H locs ls hW hS hL)
        | ne => exact lv_if_ne hx hb hd ht (fun hp => absurd (decide_eq_true (p := ¬ x = 0) hp) h1) (fun _ => k H locs ls hW hS hL)
        | lt => exact lv_if_lt hx hb hd ht (fun hp => absurd (decide_eq_true (p := x < 0) hp) h1) (fun _ => k H locs ls hW hS hL)
        | ge => exact lv_if_ge hx hb hd ht (fun hp => absurd (decide_eq_true (p := 0 ≤ x) hp) h1) (fun _ => k H locs ls hW hS hL)
        | gt => exact lv_if_gt hx hb hd ht (fun hp => absurd (decide_eq_true (p := 0 < x) hp) h1) (fun _ => k H locs ls hW hS hL)
        | le => exact lv_if_le hx hb hd ht (fun hp => absurd (decide_eq_true (p := x ≤ 0) hp) h1) (fun _ => k H locs ls hW hS hL)
    · cases hz
  case ifnull off =>
    have hl := of_decide_eq_true hw
    subst hl
    simp only [zst] at hz
    split at hz
    · obtain ⟨t, ht, he⟩ := Option.map_eq_some_iff.mp hz
      simp only [Prod.mk.injEq] at he
      obtain ⟨rfl, rfl, rfl, rfl⟩ := he
      intro H locs ls hW hS hL
      exact lv_ifnullN hx hb hd (zjmp_spec ht) (k H locs ls hW hS hL)
    · simp only [Option.some.injEq, Prod.mk.injEq] at hz
      obtain ⟨rfl, rfl, rfl, rfl⟩ := hz
      intro H locs ls hW hS hL
      exact lv_ifnull hx hb hd (k H locs ls hW hS hL)
    · cases hz
  case ifnonnull off =>
    have hl := of_decide_eq_true hw
    subst hl
    simp only [zst] at hz
    split at hz
    · simp only [Option.some.injEq, Prod.mk.injEq] at hz
      obtain ⟨rfl, rfl, rfl, rfl⟩ := hz
      intro H locs ls hW hS hL
      exact lv_ifnonnullN hx hb hd (k H locs ls hW hS hL)
    · obtain ⟨t, ht, he⟩ := Option.map_eq_some_iff.mp hz
      simp only [Prod.mk.injEq] at he
      obtain ⟨rfl, rfl, rfl, rfl⟩ := he
      intro H locs ls hW hS hL
      exact lv_ifnonnull hx hb hd (zjmp_spec ht) (k H locs ls hW hS hL)
    · cases hz
  case tableswitch df lo hi offs =>
    simp only [zst] at hz
    split at hz
    · split at hz
      · rename_i h1
        obtain ⟨t, ht, he⟩ := Option.map_eq_some_iff.mp hz
        simp only [Prod.mk.injEq] at he
        obtain ⟨rfl, rfl, rfl, rfl⟩ := he
        intro H locs ls hW hS hL
        exact lv_tableOut hx hb hd h1 (zjmp_spec ht) (k H locs ls hW hS hL)
      · rename_i h1
        obtain ⟨off, hoff, hz⟩ := Option.bind_eq_some_iff.mp hz
        obtain ⟨t, ht, he⟩ := Option.map_eq_some_iff.mp hz
        simp only [Prod.mk.injEq] at he
        obtain ⟨rfl, rfl, rfl, rfl⟩ := he
        intro H locs ls hW hS hL
        exact lv_tableIn hx hb hd (fun q => h1 (Or.inl q)) (fun q => h1 (Or.inr q)) hoff (zjmp_spec ht) (k H locs ls hW hS hL)
    · cases hz
  case lookupswitch df ps =>
    simp only [zst] at hz
    split at hz
    · split at hz
      · rename_i h1
        obtain ⟨t, ht, he⟩ := Option.map_eq_some_iff.mp hz
        simp only [Prod.mk.injEq] at he
        obtain ⟨rfl, rfl, rfl, rfl⟩ := he
        intro H locs ls hW hS hL
        exact lv_lookup hx hb hd h1 rfl (zjmp_spec ht) (k H locs ls hW hS hL)
      · cases hz
    · cases hz
  case ldc idx =>
    have hl := of_decide_eq_true hw
    subst hl
    simp only [zst] at hz
    split at hz
    · rename_i v h0
      simp only [Option.some.injEq, Prod.mk.injEq] at hz
      obtain ⟨rfl, rfl, rfl, rfl⟩ := hz
      intro H locs ls hW hS hL
      exact lv_ldc hx hb hown (hts _ (zTs_of (zCl_ok h0) rfl)) hd (k H locs ls hW hS hL)
    · split at hz
      · rename_i h1
        simp only [Option.some.injEq, Prod.mk.injEq] at hz
        obtain ⟨rfl, rfl, rfl, rfl⟩ := hz
        exact hstr.1 _ _ _ _ _ _ _ _ _ _ _ _ _ _ _ _ _ _ _ _ _ hC hd h1 k
      · cases hz
  case ldc_w idx =>
    have hl := of_decide_eq_true hw
    subst hl
    simp only [zst] at hz
    split at hz
    · rename_i v h0
      simp only [Option.some.injEq, Prod.mk.injEq] at hz
      obtain ⟨rfl, rfl, rfl, rfl⟩ := hz
      intro H locs ls hW hS hL
      exact lv_ldcw hx hb hown (hts _ (zTs_of (zCl_ok h0) rfl)) hd (k H locs ls hW hS hL)
    · cases hz
  case ldc2_w idx =>
    have hl := of_decide_eq_true hw
    subst hl
    simp only [zst] at hz
    split at hz
    · rename_i v h0
      simp only [Option.some.injEq, Prod.mk.injEq] at hz
      obtain ⟨rfl, rfl, rfl, rfl⟩ := hz
      intro H locs ls hW hS hL
      exact lv_ldc2 hx hb hown (hts _ (zTs_of (zC2_ok h0) rfl)) hd (k H locs ls hW hS hL)
    · cases hz
  case getstatic idx =>
    have hl := of_decide_eq_true hw
    subst hl
    simp only [zst] at hz
    split at hz
    · rename_i h1
      obtain ⟨rfl, rfl⟩ := h1
      simp only [Option.some.injEq, Prod.mk.injEq] at hz
      obtain ⟨rfl, rfl, rfl, rfl⟩ := hz
      intro H locs ls hW hS hL
      exact va_gets hx hb hold.2.2.2.2.2.1 hS hown (hts _ (zTs_of zSf rfl)) (fun x hx => hx) hd (k H locs ls hW hS hL)
    · cases hz
  case getfield idx =>
    have hl := of_decide_eq_true hw
    subst hl
    simp only [zst] at hz
    split at hz
    · rename_i ci kf a r hF
      split at hz
      · rename_i h1
        simp only [Option.some.injEq, Prod.mk.injEq] at hz
        obtain ⟨rfl, rfl, rfl, rfl⟩ := hz
        exact zgetf_go hC hd hF h1 k
      · cases hz
    · cases hz
  case putfield idx =>
    have hl := of_decide_eq_true hw
    subst hl
    simp only [zst] at hz
    split at hz
    · rename_i ci kf v a r hF
      split at hz
      · rename_i h1
        rw [Bool.and_eq_true] at h1
        obtain ⟨Mx, hM, he⟩ := Option.map_eq_some_iff.mp hz
        simp only [Prod.mk.injEq] at he
        obtain ⟨rfl, rfl, rfl, rfl⟩ := he
        exact zputf_go hC hd hF h1.1 h1.2 hM k
      · cases hz
    · cases hz
  case new idx =>
    have hl := of_decide_eq_true hw
    subst hl
    simp only [zst] at hz
    split at hz
    · rename_i ci hF
      simp only [Option.some.injEq, Prod.mk.injEq] at hz
      obtain ⟨rfl, rfl, rfl, rfl⟩ := hz
      exact znew_go hC hd hF hn hr k
    · cases hz
  case newarray t =>
    have hl := of_decide_eq_true hw
    subst hl
    simp only [zst] at hz
    split at hz
    · rename_i n r
      split at hz
      · rename_i h1
        simp only [Option.some.injEq, Prod.mk.injEq] at hz
        obtain ⟨rfl, rfl, rfl, rfl⟩ := hz
        exact znewa_go (a0 := (n.toNatClampNeg, .inl (fun _ => 0))) hC hd rfl zAc_int (hK.2 0 _ rfl).2 (by rw [zE_13 (by rw [znew_K]), znew_K, znew_I]) rfl (by decide) h1.1 h1.2 hn hr k
      · cases hz
    · rename_i n r
      split at hz
      · rename_i h1
        simp only [Option.some.injEq, Prod.mk.injEq] at hz
        obtain ⟨rfl, rfl, rfl, rfl⟩ := hz
        exact znewa_go (a0 := (n.toNatClampNeg, .inl (fun _ => 0))) hC hd rfl zAc_bool (hK.2 1 _ rfl).2 (by rw [zE_14 (by rw [znew_K]), znew_K, znew_I]) rfl (by decide) h1.1 h1.2 hn hr k
      · cases hz
    · rename_i n r
      split at hz
      · rename_i h1
        simp only [Option.some.injEq, Prod.mk.injEq] at hz
        obtain ⟨rfl, rfl, rfl, rfl⟩ := hz
        exact znewa_go (a0 := (n.toNatClampNeg, .inr (.inl (fun _ => 0)))) hC hd rfl zAc_long (hK.2 4 _ rfl).2 (by rw [zE_17 (by rw [znew_K]), znew_K, znew_J]) rfl (by decide) h1.1 h1.2 hn hr k
      · cases hz
    · cases hz
  case anewarray idx =>
    have hl := of_decide_eq_true hw
    subst hl
    simp only [zst] at hz
    split at hz
    · rename_i n r hF
      split at hz
      · rename_i h1
        simp only [Option.some.injEq, Prod.mk.injEq] at hz
        obtain ⟨rfl, rfl, rfl, rfl⟩ := hz
        exact znewq_go (kd := 15) hC hd hF hold.2.2.2.2.2.2.2.1 (hK.2 2 _ rfl).2 (by rw [zE_15 (by rw [znew_K]), znew_K, znew_R]; rfl) h1.1 h1.2 hn hr k
      · cases hz
    · rename_i n r hF
      split at hz
      · rename_i h1
        simp only [Option.some.injEq, Prod.mk.injEq] at hz
        obtain ⟨rfl, rfl, rfl, rfl⟩ := hz
        exact znewq_go (kd := 16) hC hd hF hold.2.2.2.2.2.2.2.2.1 (hK.2 3 _ rfl).2 (by rw [zE_16 (by rw [znew_K]), znew_K, znew_R]; rfl) h1.1 h1.2 hn hr k
      · cases hz
    · cases hz
  case arraylength =>
    have hl := of_decide_eq_true hw
    subst hl
    simp only [zst] at hz
    split at hz
    · rename_i a r
      split at hz
      · rename_i h1
        simp only [Option.some.injEq, Prod.mk.injEq] at hz
        obtain ⟨rfl, rfl, rfl, rfl⟩ := hz
        intro H locs ls hW hS hL
        have hk5 := h1
        rcases (show (zK M a).1 = 13 ∨ (zK M a).1 = 14 ∨ (zK M a).1 = 15 ∨ (zK M a).1 = 16 ∨ (zK M a).1 = 17 by omega) with hk | hk | hk | hk | hk
        · exact va_alen hx hb hK (hW.P (by rw [hk]; decide)) 0 0 (x := ((zK M a).2, .inl (zI M a))) (by rw [zE_13 hk]; rfl) rfl rfl hd (k H locs ls hW hS hL)
        · exact va_alen hx hb hK (hW.P (by rw [hk]; decide)) 0 1 (x := ((zK M a).2, .inl (zI M a))) (by rw [zE_14 hk]; rfl) rfl rfl hd (k H locs ls hW hS hL)
        · exact va_alen hx hb hK (hW.P (by rw [hk]; decide)) 0 2 (x := ((zK M a).2, .inr (.inr (.inr (.inr (fun j => (zR M a j).map (fun r => b + r))))))) (by rw [zE_15 hk]; rfl) rfl rfl hd (k H locs ls hW hS hL)
        · exact va_alen hx hb hK (hW.P (by rw [hk]; decide)) 0 3 (x := ((zK M a).2, .inr (.inr (.inr (.inr (fun j => (zR M a j).map (fun r => b + r))))))) (by rw [zE_16 hk]; rfl) rfl rfl hd (k H locs ls hW hS hL)
        · exact va_alen hx hb hK (hW.P (by rw [hk]; decide)) 0 4 (x := ((zK M a).2, .inr (.inl (zJ M a)))) (by rw [zE_17 hk]; rfl) rfl rfl hd (k H locs ls hW hS hL)
      · cases hz
    · split at hz
      · rename_i h1
        have h1 := h1.1
        subst h1
        simp only [Option.some.injEq, Prod.mk.injEq] at hz
        obtain ⟨rfl, rfl, rfl, rfl⟩ := hz
        intro H locs ls hW hS hL
        exact va_slen hx hb hold.2.2.1 (Nat.lt_of_lt_of_le hold.2.1 hold.1) (Nat.not_le.mpr hold.2.1) hS hd (k H locs ls hW hS hL)
      · split at hz
        · rename_i h1 h2
          subst h2
          simp only [Option.some.injEq, Prod.mk.injEq] at hz
          obtain ⟨rfl, rfl, rfl, rfl⟩ := hz
          intro H locs ls hW hS hL
          exact va_tlen hx hb hold.2.2.2.2.1 hS rfl hd (k H locs ls hW hS hL)
        · cases hz
    · cases hz
  case iaload =>
    have hl := of_decide_eq_true hw
    subst hl
    simp only [zst] at hz
    split at hz
    · split at hz
      · rename_i h1
        obtain ⟨g2, g3⟩ := zin_spec h1
        have g1 := Nat.lt_of_le_of_lt (Nat.le_of_eq g2) (show _ < 99 by decide)
        simp only [Option.some.injEq, Prod.mk.injEq] at hz
        obtain ⟨rfl, rfl, rfl, rfl⟩ := hz
        intro H locs ls hW hS hL
        exact va_iald hx hb hK (hW.P g1) 0 0 (by rw [zE_13 g2]; rfl) rfl g3 hd (k H locs ls hW hS hL)
      · cases hz
    · split at hz
      · rename_i h1
        have h1 := h1.1
        subst h1
        split at hz
        · cases hz
        · rename_i h2
          simp only [Option.some.injEq, Prod.mk.injEq] at hz
          obtain ⟨rfl, rfl, rfl, rfl⟩ := hz
          intro H locs ls hW hS hL
          exact va_sld hx hb hold.2.2.1 (Nat.lt_of_lt_of_le hold.2.1 hold.1) (Nat.not_le.mpr hold.2.1) hS (zout_spec h2) hd (k H locs ls hW hS hL)
      · split at hz
        · rename_i h1 h2
          subst h2
          split at hz
          · cases hz
          · rename_i h3
            simp only [Option.some.injEq, Prod.mk.injEq] at hz
            obtain ⟨rfl, rfl, rfl, rfl⟩ := hz
            intro H locs ls hW hS hL
            exact va_ti hx hb hold.2.2.2.2.1 hS (zout_spec h3) rfl hd (k H locs ls hW hS hL)
        · cases hz
    · cases hz
  case baload =>
    have hl := of_decide_eq_true hw
    subst hl
    simp only [zst] at hz
    split at hz
    · split at hz
      · rename_i h1
        obtain ⟨g2, g3⟩ := zin_spec h1
        have g1 := Nat.lt_of_le_of_lt (Nat.le_of_eq g2) (show _ < 99 by decide)
        simp only [Option.some.injEq, Prod.mk.injEq] at hz
        obtain ⟨rfl, rfl, rfl, rfl⟩ := hz
        intro H locs ls hW hS hL
        exact va_zald hx hb hK (hW.P g1) 0 1 (by rw [zE_14 g2]; rfl) rfl g3 hd (k H locs ls hW hS hL)
      · cases hz
    · cases hz
  case laload =>
    have hl := of_decide_eq_true hw
    subst hl
    simp only [zst] at hz
    split at hz
    · split at hz
      · rename_i h1
        obtain ⟨g2, g3⟩ := zin_spec h1
        have g1 := Nat.lt_of_le_of_lt (Nat.le_of_eq g2) (show _ < 99 by decide)
        simp only [Option.some.injEq, Prod.mk.injEq] at hz
        obtain ⟨rfl, rfl, rfl, rfl⟩ := hz
        intro H locs ls hW hS hL
        exact va_lald hx hb hK (hW.P g1) 0 4 (by rw [zE_17 g2]; rfl) rfl g3 hd (k H locs ls hW hS hL)
      · cases hz
    · cases hz
  case aaload =>
    have hl := of_decide_eq_true hw
    subst hl
    simp only [zst] at hz
    split at hz
    · split at hz
      · rename_i h1
        simp only [Option.some.injEq, Prod.mk.injEq] at hz
        obtain ⟨rfl, rfl, rfl, rfl⟩ := hz
        intro H locs ls hW hS hL
        rw [Bool.or_eq_true] at h1
        rcases h1 with h1 | h1
        · obtain ⟨g2, g3⟩ := zin_spec h1
          have g1 := Nat.lt_of_le_of_lt (Nat.le_of_eq g2) (show _ < 99 by decide)
          refine va_aldq hx hb hK (hW.P g1) 0 2 (by rw [zE_15 g2]; rfl) rfl g3 hd ?_
          rw [zrf_map b _ sp]
          exact k H locs ls hW hS hL
        · obtain ⟨g2, g3⟩ := zin_spec h1
          have g1 := Nat.lt_of_le_of_lt (Nat.le_of_eq g2) (show _ < 99 by decide)
          refine va_aldq hx hb hK (hW.P g1) 0 3 (by rw [zE_16 g2]; rfl) rfl g3 hd ?_
          rw [zrf_map b _ sp]
          exact k H locs ls hW hS hL
      · cases hz
    · cases hz
  case iastore =>
    have hl := of_decide_eq_true hw
    subst hl
    simp only [zst] at hz
    split at hz
    · split at hz
      · rename_i h1
        simp only [Option.some.injEq, Prod.mk.injEq] at hz
        obtain ⟨rfl, rfl, rfl, rfl⟩ := hz
        exact ziast_go hC hd h1 k
      · cases hz
    · cases hz
  case bastore =>
    have hl := of_decide_eq_true hw
    subst hl
    simp only [zst] at hz
    split at hz
    · split at hz
      · rename_i h1
        simp only [Option.some.injEq, Prod.mk.injEq] at hz
        obtain ⟨rfl, rfl, rfl, rfl⟩ := hz
        exact zbast_go hC hd (Bool.and_eq_true _ _ ▸ h1).1 (of_decide_eq_true (Bool.and_eq_true _ _ ▸ h1).2) k
      · cases hz
    · cases hz
  case lastore =>
    have hl := of_decide_eq_true hw
    subst hl
    simp only [zst] at hz
    split at hz
    · split at hz
      · rename_i h1
        simp only [Option.some.injEq, Prod.mk.injEq] at hz
        obtain ⟨rfl, rfl, rfl, rfl⟩ := hz
        exact zlast_go hC hd h1 k
      · cases hz
    · cases hz
  case aastore =>
    have hl := of_decide_eq_true hw
    subst hl
    simp only [zst] at hz
    split at hz
    · split at hz
      · rename_i h1
        simp only [Option.some.injEq, Prod.mk.injEq] at hz
        obtain ⟨rfl, rfl, rfl, rfl⟩ := hz
        rw [Bool.or_eq_true, Bool.and_eq_true, Bool.and_eq_true] at h1
        rcases h1 with h1 | h1
        · exact zaast_go (kd := 15) (cv := 4) (by decide) hC hd h1.1 h1.2 (by decide) (fun M h => zE_15 h) (hK.2 2 _ rfl).2 k
        · exact zaast_go (kd := 16) (cv := 8) (by decide) hC hd h1.1 h1.2 (by decide) (fun M h => zE_16 h) (hK.2 3 _ rfl).2 k
      · cases hz
    · cases hz
  all_goals exact nomatch (show (none : Option zSt) = some _ from hz)
end ZB
