/-! ===== the constant text: length and indexOf on it ===== -/
def zKt (j : Nat) : Int32 := ([107, 102, 110, 118, 116, 111] : List Int32).getD j 0
def zRX (b q t : Nat) (U : State) (H : Heap) : Prop :=
  va_O RJ0 q (fun a => b ≤ a) U H ∧ va_OF RJ0 "coder" "B" (.int 0) q (fun a => b ≤ a) U H ∧ va_OF RJ0 "value" "[B" (.ref t) q (fun a => b ≤ a) U H ∧ va_T .byte t 6 (fun j => .int (zKt j)) (fun a => b ≤ a) U H ∧ va_Z RJ0 "COMPACT_STRINGS" "Z" (.int 1) (fun a => b ≤ a) U H
theorem zRX.move {b q t : Nat} {s U : State} {H H1 : Heap} (h : zRX b q t s H) (hW : s.WarmedH U.vm) (hq : ∀ a, a < b → H1[a]? = H[a]?) : zRX b q t U H1 := by
  obtain ⟨h1, h2, h3, h4, h5⟩ := h
  have hq' : ∀ a : Nat, a < H.size → ¬ b ≤ a → H1[a]? = H[a]? := fun a _ ha => hq a (Nat.lt_of_not_le ha)
  exact ⟨va_O.moved hW.alike (h1.kept hq'), va_OF.moved hW.alike (h2.kept hq'), va_OF.moved hW.alike (h3.kept hq'), va_T.moved hW.alike (h4.kept hq'), va_Z.moved hW.alike (h5.kept hq')⟩
def zsP (b q t : Nat) (As : List Value) : Array Value → State → Prop := va_Pc As (fun U => zRX b q t U U.heap)
def zsQ (v : Int32) : Array Value → State → Outcome → State → Prop := fun _ st o t => o = .returned (some (.int v)) ∧ t.heap = st.heap
theorem zsP_blind {b q t : Nat} {As : List Value} : FrameBlind (zsP b q t As) := fun a U g mk h => ⟨h.1, zRX.move (s := U) (U := U.calling g mk a) (H := U.heap) h.2 (State.WarmedH.refl U) (fun _ _ => rfl)⟩
abbrev zsM (l : Launch) (b q t : Nat) (y : MethodName) (cc : ByteArray) (maxL : Nat) (ret : FieldType) (d : Nat) (As : List Value) (v : Int32) : Prop :=
  Met l y (Cond.code y cc maxL (some ret) :: zTs) ({ frames := d, cells := 0, slots := 0, locals := 64 * d } : Room) (zsP b q t As) (zsQ v) 0 0 (fun _ => False)
section ZSTR
variable {p : Program} {l : Launch} {e : Env} {R : Room} {s : State} {m : MethodId} {args : Array Value} {below : List Frame} {meth : Method} {c : Code} {Q : State → Prop} {cc : ByteArray}
theorem zs_call {v : Int32} {H : Heap} {locs : List Loc} {cells slots pc : Nat} {ls : Array Slot} {st0 rest : List Value} {a : Array Value} (hr : va_Run p l e R s m args below meth c H locs cells slots 0 0 (F0 m pc ls st0) rest (zsQ v a) (fun _ => False))
    (kk : W p l e R s m args below meth c H locs cells slots Q (F0 m (pc + 3) ls (.int v :: rest))) : W p l e R s m args below meth c H locs cells slots Q (F0 m pc ls st0) := by
  intro T hT X
  obtain ⟨v', st₀, t, T', L, h0, X', hL, e1, e2, ⟨hv, hh⟩, st⟩ := hr T hT X
  have hv := Outcome.returned.inj hv
  subst hv
  have hL0 : L = [] := by
    cases L with
    | nil => rfl
    | cons x r => exact absurd (hL x List.mem_cons_self) id
  subst hL0
  rw [List.append_nil, Nat.add_zero, Nat.add_zero] at X'
  obtain ⟨t2, a1, b1⟩ := kk T' (by rw [e1, hh, h0]) X'
  exact ⟨t2, st t2 a1, b1⟩
/-- the beginning of a text method -/
theorem zs_of {b q t : Nat} {y : MethodName} {cc : ByteArray} {maxL d : Nat} {ret : FieldType} {As : List Value} {v : Int32} (hy : plainName y.cls = true) (hm : (lg_sl As).length ≤ maxL)
    (body : ∀ (p : Program) (e : Env) (s : State) (m : MethodId) (below : List Frame) (meth : Method) (c : Code) (ls : Array Slot), p.tables.exec = Jvm.exec → c.code = cc → meth.sig.returnType = some ret → c.maxLocals = maxL → s.vm.findClass y.cls = some m.cls → (∀ w ∈ zTs, w.before As.toArray s = true) → zRX b q t s s.heap → meth.locks = false → lv_has ls maxL (lv_args 0 As) →
      W p l e ({ frames := d, cells := 0, slots := 0, locals := 64 * d } : Room) s m As.toArray below meth c s.heap [] 0 0 (MQ below (zsQ v) As.toArray s 0 0 (fun _ => False)) (F0 m 0 ls [])) : zsM l b q t y cc maxL ret d As v := by
  refine Met.ofW (cc := cc) (maxL := maxL) (ret := some ret) hy rfl ?_
  intro p e s m args below meth c s₁ B hml hv
  obtain ⟨rfl, hX⟩ := hv
  have hts := atoms_spec (ws := Cond.code y cc maxL (some ret) :: zTs) B.pre
  have hown : s.vm.findClass y.cls = some m.cls := findClass_of_methodNamed B.named
  have hl := lv_entry As (n := maxL) hm
  rw [lg_entry_eq]
  exact body p e s m below meth c _ B.exec B.bytes B.returns hml hown (fun w hw => hts w (List.mem_cons_of_mem _ hw)) hX B.notSynchronized hl
theorem zs_ret {v : Int32} {ret : FieldType} {H : Heap} {pc : Nat} {ls : Array Slot} (hx : p.tables.exec = Jvm.exec) (hb : c.code = cc) (hr : meth.sig.returnType = some ret) (hn : narrow ret (.int v) = .int v) (hH : H = s.heap) (hl : meth.locks = false) (hd : decode cc pc = .ok (.ireturn, 1)) :
    W p l e R s m args below meth c H [] 0 0 (MQ below (zsQ v) args s 0 0 (fun _ => False)) (F0 m pc ls [.int v]) :=
  W.zret hx hb hr hn (fun t ht _ => ⟨rfl, by rw [ht, hH]⟩) (fun _ h => nomatch h) hd hl
end ZSTR
theorem zw_indexOf1_l_RX5 : Cond.methodLink RX5 97 yJ0_indexOf_0f7a4 ∈ zTs := zTs_of (List.mem_of_getElem? (i := 662) (by decide +kernel)) rfl
theorem zw_indexOf1_i : Cond.instanceMethod yJ0_indexOf_0f7a4 ∈ zTs := zTs_of (List.mem_of_getElem? (i := 663) (by decide +kernel)) rfl
theorem zw_indexOf1_s : Cond.selects RJ0 yJ0_indexOf_0f7a4 yJ0_indexOf_0f7a4 ∈ zTs := zTs_of (List.mem_of_getElem? (i := 664) (by decide +kernel)) rfl
theorem zw_indexOf1_c : Cond.code yJ0_indexOf_0f7a4 cJ0_indexOf_0f7a4 2 (some .int) ∈ zTs := zTs_of (List.mem_of_getElem? (i := 665) (by decide +kernel)) rfl
theorem zw_indexOf2_l_RJ0 : Cond.methodLink RJ0 633 yJ0_indexOf_7cf53 ∈ zTs := zTs_of (List.mem_of_getElem? (i := 666) (by decide +kernel)) rfl
theorem zw_indexOf2_i : Cond.instanceMethod yJ0_indexOf_7cf53 ∈ zTs := zTs_of (List.mem_of_getElem? (i := 667) (by decide +kernel)) rfl
theorem zw_indexOf2_s : Cond.selects RJ0 yJ0_indexOf_7cf53 yJ0_indexOf_7cf53 ∈ zTs := zTs_of (List.mem_of_getElem? (i := 668) (by decide +kernel)) rfl
theorem zw_indexOf2_c : Cond.code yJ0_indexOf_7cf53 cJ0_indexOf_7cf53 3 (some .int) ∈ zTs := zTs_of (List.mem_of_getElem? (i := 669) (by decide +kernel)) rfl
theorem zw_isLatin1_l_RJ0 : Cond.methodLink RJ0 492 yJ0_isLatin1_aae02 ∈ zTs := zTs_of (List.mem_of_getElem? (i := 670) (by decide +kernel)) rfl
theorem zw_isLatin1_i : Cond.instanceMethod yJ0_isLatin1_aae02 ∈ zTs := zTs_of (List.mem_of_getElem? (i := 671) (by decide +kernel)) rfl
theorem zw_isLatin1_s : Cond.selects RJ0 yJ0_isLatin1_aae02 yJ0_isLatin1_aae02 ∈ zTs := zTs_of (List.mem_of_getElem? (i := 672) (by decide +kernel)) rfl
theorem zw_isLatin1_c : Cond.code yJ0_isLatin1_aae02 cJ0_isLatin1_aae02 1 (some .boolean) ∈ zTs := zTs_of (List.mem_of_getElem? (i := 673) (by decide +kernel)) rfl
theorem zw_length_l_RJ0 : Cond.methodLink RJ0 505 yJ0_length_8abf5 ∈ zTs := zTs_of (List.mem_of_getElem? (i := 676) (by decide +kernel)) rfl
theorem zw_length_l_RX4 : Cond.methodLink RX4 42 yJ0_length_8abf5 ∈ zTs := zTs_of (List.mem_of_getElem? (i := 972) (by decide +kernel)) rfl
theorem zw_length_i : Cond.instanceMethod yJ0_length_8abf5 ∈ zTs := zTs_of (List.mem_of_getElem? (i := 677) (by decide +kernel)) rfl
theorem zw_length_s : Cond.selects RJ0 yJ0_length_8abf5 yJ0_length_8abf5 ∈ zTs := zTs_of (List.mem_of_getElem? (i := 678) (by decide +kernel)) rfl
theorem zw_length_c : Cond.code yJ0_length_8abf5 cJ0_length_8abf5 1 (some .int) ∈ zTs := zTs_of (List.mem_of_getElem? (i := 679) (by decide +kernel)) rfl
theorem zw_coder_l_RJ0 : Cond.methodLink RJ0 335 yJ0_coder_7d493 ∈ zTs := zTs_of (List.mem_of_getElem? (i := 680) (by decide +kernel)) rfl
theorem zw_coder_i : Cond.instanceMethod yJ0_coder_7d493 ∈ zTs := zTs_of (List.mem_of_getElem? (i := 681) (by decide +kernel)) rfl
theorem zw_coder_s : Cond.selects RJ0 yJ0_coder_7d493 yJ0_coder_7d493 ∈ zTs := zTs_of (List.mem_of_getElem? (i := 682) (by decide +kernel)) rfl
theorem zw_coder_c : Cond.code yJ0_coder_7d493 cJ0_coder_7d493 1 (some .byte) ∈ zTs := zTs_of (List.mem_of_getElem? (i := 683) (by decide +kernel)) rfl
theorem zw_l1ix_l : Cond.methodLink RJ0 637 yJ1_indexOf_4cfef ∈ zTs := zTs_of (List.mem_of_getElem? (i := 684) (by decide +kernel)) rfl
theorem zw_l1ix_s : Cond.static yJ1_indexOf_4cfef ∈ zTs := zTs_of (List.mem_of_getElem? (i := 685) (by decide +kernel)) rfl
theorem zw_l1ix_c : Cond.code yJ1_indexOf_4cfef cJ1_indexOf_4cfef 4 (some .int) ∈ zTs := zTs_of (List.mem_of_getElem? (i := 686) (by decide +kernel)) rfl
theorem zw_canEnc_l : Cond.methodLink RJ1 88 yJ1_canEncode_9a6ad ∈ zTs := zTs_of (List.mem_of_getElem? (i := 687) (by decide +kernel)) rfl
theorem zw_canEnc_s : Cond.static yJ1_canEncode_9a6ad ∈ zTs := zTs_of (List.mem_of_getElem? (i := 688) (by decide +kernel)) rfl
theorem zw_canEnc_c : Cond.code yJ1_canEncode_9a6ad cJ1_canEncode_9a6ad 1 (some .boolean) ∈ zTs := zTs_of (List.mem_of_getElem? (i := 689) (by decide +kernel)) rfl
theorem zw_ixChar_l : Cond.methodLink RJ1 95 yJ1_indexOfChar_4cfef ∈ zTs := zTs_of (List.mem_of_getElem? (i := 696) (by decide +kernel)) rfl
theorem zw_ixChar_s : Cond.static yJ1_indexOfChar_4cfef ∈ zTs := zTs_of (List.mem_of_getElem? (i := 697) (by decide +kernel)) rfl
theorem zw_ixChar_c : Cond.code yJ1_indexOfChar_4cfef cJ1_indexOfChar_4cfef 6 (some .int) ∈ zTs := zTs_of (List.mem_of_getElem? (i := 698) (by decide +kernel)) rfl
theorem zw_j_max : Cond.methodLink RJ1 92 Lib.Math.max.name ∈ zTs := zTs_of (List.mem_of_getElem? (i := 690) (by decide +kernel)) rfl
theorem zw_j_min : Cond.methodLink RJ1 38 Lib.Math.min.name ∈ zTs := zTs_of (List.mem_of_getElem? (i := 693) (by decide +kernel)) rfl
theorem zw_iniJ0 : Cond.initialized RJ0 ∈ zTs := zTs_of (List.mem_of_getElem? (i := 126) (by decide +kernel)) rfl
theorem zw_iniJ1 : Cond.initialized RJ1 ∈ zTs := zTs_of (List.mem_of_getElem? (i := 127) (by decide +kernel)) rfl
theorem zw_fcomp : Cond.fieldLink RJ0 38 RJ0 "COMPACT_STRINGS" "Z" ∈ zTs := zTs_of (List.mem_of_getElem? (i := 674) (by decide +kernel)) rfl
theorem zw_fcoder : Cond.fieldLink RJ0 15 RJ0 "coder" "B" ∈ zTs := zTs_of (List.mem_of_getElem? (i := 2153) (by decide +kernel)) rfl
theorem zw_fvalue : Cond.fieldLink RJ0 9 RJ0 "value" "[B" ∈ zTs := zTs_of (List.mem_of_getElem? (i := 2154) (by decide +kernel)) rfl
theorem dJ0_length_8abf5_0 : decode cJ0_length_8abf5 0 = .ok (.aload_n 0, 1) := by decide +kernel
theorem dJ0_length_8abf5_1 : decode cJ0_length_8abf5 1 = .ok (.getfield 9, 3) := by decide +kernel
theorem dJ0_length_8abf5_4 : decode cJ0_length_8abf5 4 = .ok (.arraylength, 1) := by decide +kernel
theorem dJ0_length_8abf5_5 : decode cJ0_length_8abf5 5 = .ok (.aload_n 0, 1) := by decide +kernel
theorem dJ0_length_8abf5_6 : decode cJ0_length_8abf5 6 = .ok (.invokevirtual 335, 3) := by decide +kernel
theorem dJ0_length_8abf5_9 : decode cJ0_length_8abf5 9 = .ok (.ishr, 1) := by decide +kernel
theorem dJ0_length_8abf5_10 : decode cJ0_length_8abf5 10 = .ok (.ireturn, 1) := by decide +kernel
theorem dJ0_indexOf_0f7a4_0 : decode cJ0_indexOf_0f7a4 0 = .ok (.aload_n 0, 1) := by decide +kernel
theorem dJ0_indexOf_0f7a4_1 : decode cJ0_indexOf_0f7a4 1 = .ok (.iload_n 1, 1) := by decide +kernel
theorem dJ0_indexOf_0f7a4_2 : decode cJ0_indexOf_0f7a4 2 = .ok (.iconst 0, 1) := by decide +kernel
theorem dJ0_indexOf_0f7a4_3 : decode cJ0_indexOf_0f7a4 3 = .ok (.invokevirtual 633, 3) := by decide +kernel
theorem dJ0_indexOf_0f7a4_6 : decode cJ0_indexOf_0f7a4 6 = .ok (.ireturn, 1) := by decide +kernel
theorem dJ0_indexOf_7cf53_0 : decode cJ0_indexOf_7cf53 0 = .ok (.aload_n 0, 1) := by decide +kernel
theorem dJ0_indexOf_7cf53_1 : decode cJ0_indexOf_7cf53 1 = .ok (.invokevirtual 492, 3) := by decide +kernel
theorem dJ0_indexOf_7cf53_4 : decode cJ0_indexOf_7cf53 4 = .ok (.ifCond .eq 19, 3) := by decide +kernel
theorem dJ0_indexOf_7cf53_7 : decode cJ0_indexOf_7cf53 7 = .ok (.aload_n 0, 1) := by decide +kernel
theorem dJ0_indexOf_7cf53_8 : decode cJ0_indexOf_7cf53 8 = .ok (.getfield 9, 3) := by decide +kernel
theorem dJ0_indexOf_7cf53_11 : decode cJ0_indexOf_7cf53 11 = .ok (.iload_n 1, 1) := by decide +kernel
theorem dJ0_indexOf_7cf53_12 : decode cJ0_indexOf_7cf53 12 = .ok (.iload_n 2, 1) := by decide +kernel
theorem dJ0_indexOf_7cf53_13 : decode cJ0_indexOf_7cf53 13 = .ok (.aload_n 0, 1) := by decide +kernel
theorem dJ0_indexOf_7cf53_14 : decode cJ0_indexOf_7cf53 14 = .ok (.invokevirtual 505, 3) := by decide +kernel
theorem dJ0_indexOf_7cf53_17 : decode cJ0_indexOf_7cf53 17 = .ok (.invokestatic 637, 3) := by decide +kernel
theorem dJ0_indexOf_7cf53_20 : decode cJ0_indexOf_7cf53 20 = .ok (.goto 16, 3) := by decide +kernel
theorem dJ0_indexOf_7cf53_23 : decode cJ0_indexOf_7cf53 23 = .ok (.aload_n 0, 1) := by decide +kernel
theorem dJ0_indexOf_7cf53_24 : decode cJ0_indexOf_7cf53 24 = .ok (.getfield 9, 3) := by decide +kernel
theorem dJ0_indexOf_7cf53_27 : decode cJ0_indexOf_7cf53 27 = .ok (.iload_n 1, 1) := by decide +kernel
theorem dJ0_indexOf_7cf53_28 : decode cJ0_indexOf_7cf53 28 = .ok (.iload_n 2, 1) := by decide +kernel
theorem dJ0_indexOf_7cf53_29 : decode cJ0_indexOf_7cf53 29 = .ok (.aload_n 0, 1) := by decide +kernel
theorem dJ0_indexOf_7cf53_30 : decode cJ0_indexOf_7cf53 30 = .ok (.invokevirtual 505, 3) := by decide +kernel
theorem dJ0_indexOf_7cf53_33 : decode cJ0_indexOf_7cf53 33 = .ok (.invokestatic 640, 3) := by decide +kernel
theorem dJ0_indexOf_7cf53_36 : decode cJ0_indexOf_7cf53 36 = .ok (.ireturn, 1) := by decide +kernel
theorem dJ0_coder_7d493_0 : decode cJ0_coder_7d493 0 = .ok (.getstatic 38, 3) := by decide +kernel
theorem dJ0_coder_7d493_3 : decode cJ0_coder_7d493 3 = .ok (.ifCond .eq 10, 3) := by decide +kernel
theorem dJ0_coder_7d493_6 : decode cJ0_coder_7d493 6 = .ok (.aload_n 0, 1) := by decide +kernel
theorem dJ0_coder_7d493_7 : decode cJ0_coder_7d493 7 = .ok (.getfield 15, 3) := by decide +kernel
theorem dJ0_coder_7d493_10 : decode cJ0_coder_7d493 10 = .ok (.goto 4, 3) := by decide +kernel
theorem dJ0_coder_7d493_13 : decode cJ0_coder_7d493 13 = .ok (.iconst 1, 1) := by decide +kernel
theorem dJ0_coder_7d493_14 : decode cJ0_coder_7d493 14 = .ok (.ireturn, 1) := by decide +kernel
theorem dJ0_isLatin1_aae02_0 : decode cJ0_isLatin1_aae02 0 = .ok (.getstatic 38, 3) := by decide +kernel
theorem dJ0_isLatin1_aae02_3 : decode cJ0_isLatin1_aae02 3 = .ok (.ifCond .eq 14, 3) := by decide +kernel
theorem dJ0_isLatin1_aae02_6 : decode cJ0_isLatin1_aae02 6 = .ok (.aload_n 0, 1) := by decide +kernel
theorem dJ0_isLatin1_aae02_7 : decode cJ0_isLatin1_aae02 7 = .ok (.getfield 15, 3) := by decide +kernel
theorem dJ0_isLatin1_aae02_10 : decode cJ0_isLatin1_aae02 10 = .ok (.ifCond .ne 7, 3) := by decide +kernel
theorem dJ0_isLatin1_aae02_13 : decode cJ0_isLatin1_aae02 13 = .ok (.iconst 1, 1) := by decide +kernel
theorem dJ0_isLatin1_aae02_14 : decode cJ0_isLatin1_aae02 14 = .ok (.goto 4, 3) := by decide +kernel
theorem dJ0_isLatin1_aae02_17 : decode cJ0_isLatin1_aae02 17 = .ok (.iconst 0, 1) := by decide +kernel
theorem dJ0_isLatin1_aae02_18 : decode cJ0_isLatin1_aae02 18 = .ok (.ireturn, 1) := by decide +kernel
theorem dJ1_canEncode_9a6ad_0 : decode cJ1_canEncode_9a6ad 0 = .ok (.iload_n 0, 1) := by decide +kernel
theorem dJ1_canEncode_9a6ad_1 : decode cJ1_canEncode_9a6ad 1 = .ok (.ifCond .lt 14, 3) := by decide +kernel
theorem dJ1_canEncode_9a6ad_4 : decode cJ1_canEncode_9a6ad 4 = .ok (.iload_n 0, 1) := by decide +kernel
theorem dJ1_canEncode_9a6ad_5 : decode cJ1_canEncode_9a6ad 5 = .ok (.sipush 255, 3) := by decide +kernel
theorem dJ1_canEncode_9a6ad_8 : decode cJ1_canEncode_9a6ad 8 = .ok (.if_icmp .gt 7, 3) := by decide +kernel
theorem dJ1_canEncode_9a6ad_11 : decode cJ1_canEncode_9a6ad 11 = .ok (.iconst 1, 1) := by decide +kernel
theorem dJ1_canEncode_9a6ad_12 : decode cJ1_canEncode_9a6ad 12 = .ok (.goto 4, 3) := by decide +kernel
theorem dJ1_canEncode_9a6ad_15 : decode cJ1_canEncode_9a6ad 15 = .ok (.iconst 0, 1) := by decide +kernel
theorem dJ1_canEncode_9a6ad_16 : decode cJ1_canEncode_9a6ad 16 = .ok (.ireturn, 1) := by decide +kernel
theorem dJ1_indexOf_4cfef_0 : decode cJ1_indexOf_4cfef 0 = .ok (.iload_n 1, 1) := by decide +kernel
theorem dJ1_indexOf_4cfef_1 : decode cJ1_indexOf_4cfef 1 = .ok (.invokestatic 88, 3) := by decide +kernel
theorem dJ1_indexOf_4cfef_4 : decode cJ1_indexOf_4cfef 4 = .ok (.ifCond .ne 5, 3) := by decide +kernel
theorem dJ1_indexOf_4cfef_7 : decode cJ1_indexOf_4cfef 7 = .ok (.iconst (-1), 1) := by decide +kernel
theorem dJ1_indexOf_4cfef_8 : decode cJ1_indexOf_4cfef 8 = .ok (.ireturn, 1) := by decide +kernel
theorem dJ1_indexOf_4cfef_9 : decode cJ1_indexOf_4cfef 9 = .ok (.iload_n 2, 1) := by decide +kernel
theorem dJ1_indexOf_4cfef_10 : decode cJ1_indexOf_4cfef 10 = .ok (.iconst 0, 1) := by decide +kernel
theorem dJ1_indexOf_4cfef_11 : decode cJ1_indexOf_4cfef 11 = .ok (.invokestatic 92, 3) := by decide +kernel
theorem dJ1_indexOf_4cfef_14 : decode cJ1_indexOf_4cfef 14 = .ok (.istore_n 2, 1) := by decide +kernel
theorem dJ1_indexOf_4cfef_15 : decode cJ1_indexOf_4cfef 15 = .ok (.iload_n 3, 1) := by decide +kernel
theorem dJ1_indexOf_4cfef_16 : decode cJ1_indexOf_4cfef 16 = .ok (.aload_n 0, 1) := by decide +kernel
theorem dJ1_indexOf_4cfef_17 : decode cJ1_indexOf_4cfef 17 = .ok (.arraylength, 1) := by decide +kernel
theorem dJ1_indexOf_4cfef_18 : decode cJ1_indexOf_4cfef 18 = .ok (.invokestatic 38, 3) := by decide +kernel
theorem dJ1_indexOf_4cfef_21 : decode cJ1_indexOf_4cfef 21 = .ok (.istore_n 3, 1) := by decide +kernel
theorem dJ1_indexOf_4cfef_22 : decode cJ1_indexOf_4cfef 22 = .ok (.iload_n 2, 1) := by decide +kernel
theorem dJ1_indexOf_4cfef_23 : decode cJ1_indexOf_4cfef 23 = .ok (.iload_n 3, 1) := by decide +kernel
theorem dJ1_indexOf_4cfef_24 : decode cJ1_indexOf_4cfef 24 = .ok (.if_icmp .lt 5, 3) := by decide +kernel
theorem dJ1_indexOf_4cfef_27 : decode cJ1_indexOf_4cfef 27 = .ok (.iconst (-1), 1) := by decide +kernel
theorem dJ1_indexOf_4cfef_28 : decode cJ1_indexOf_4cfef 28 = .ok (.ireturn, 1) := by decide +kernel
theorem dJ1_indexOf_4cfef_29 : decode cJ1_indexOf_4cfef 29 = .ok (.aload_n 0, 1) := by decide +kernel
theorem dJ1_indexOf_4cfef_30 : decode cJ1_indexOf_4cfef 30 = .ok (.iload_n 1, 1) := by decide +kernel
theorem dJ1_indexOf_4cfef_31 : decode cJ1_indexOf_4cfef 31 = .ok (.iload_n 2, 1) := by decide +kernel
theorem dJ1_indexOf_4cfef_32 : decode cJ1_indexOf_4cfef 32 = .ok (.iload_n 3, 1) := by decide +kernel
theorem dJ1_indexOf_4cfef_33 : decode cJ1_indexOf_4cfef 33 = .ok (.invokestatic 95, 3) := by decide +kernel
theorem dJ1_indexOf_4cfef_36 : decode cJ1_indexOf_4cfef 36 = .ok (.ireturn, 1) := by decide +kernel
theorem dJ1_indexOfChar_4cfef_0 : decode cJ1_indexOfChar_4cfef 0 = .ok (.iload_n 1, 1) := by decide +kernel
theorem dJ1_indexOfChar_4cfef_1 : decode cJ1_indexOfChar_4cfef 1 = .ok (.i2b, 1) := by decide +kernel
theorem dJ1_indexOfChar_4cfef_2 : decode cJ1_indexOfChar_4cfef 2 = .ok (.istore 4, 2) := by decide +kernel
theorem dJ1_indexOfChar_4cfef_4 : decode cJ1_indexOfChar_4cfef 4 = .ok (.iload_n 2, 1) := by decide +kernel
theorem dJ1_indexOfChar_4cfef_5 : decode cJ1_indexOfChar_4cfef 5 = .ok (.istore 5, 2) := by decide +kernel
theorem dJ1_indexOfChar_4cfef_7 : decode cJ1_indexOfChar_4cfef 7 = .ok (.iload 5, 2) := by decide +kernel
theorem dJ1_indexOfChar_4cfef_9 : decode cJ1_indexOfChar_4cfef 9 = .ok (.iload_n 3, 1) := by decide +kernel
theorem dJ1_indexOfChar_4cfef_10 : decode cJ1_indexOfChar_4cfef 10 = .ok (.if_icmp .ge 21, 3) := by decide +kernel
theorem dJ1_indexOfChar_4cfef_13 : decode cJ1_indexOfChar_4cfef 13 = .ok (.aload_n 0, 1) := by decide +kernel
theorem dJ1_indexOfChar_4cfef_14 : decode cJ1_indexOfChar_4cfef 14 = .ok (.iload 5, 2) := by decide +kernel
theorem dJ1_indexOfChar_4cfef_16 : decode cJ1_indexOfChar_4cfef 16 = .ok (.baload, 1) := by decide +kernel
theorem dJ1_indexOfChar_4cfef_17 : decode cJ1_indexOfChar_4cfef 17 = .ok (.iload 4, 2) := by decide +kernel
theorem dJ1_indexOfChar_4cfef_19 : decode cJ1_indexOfChar_4cfef 19 = .ok (.if_icmp .ne 6, 3) := by decide +kernel
theorem dJ1_indexOfChar_4cfef_22 : decode cJ1_indexOfChar_4cfef 22 = .ok (.iload 5, 2) := by decide +kernel
theorem dJ1_indexOfChar_4cfef_24 : decode cJ1_indexOfChar_4cfef 24 = .ok (.ireturn, 1) := by decide +kernel
theorem dJ1_indexOfChar_4cfef_25 : decode cJ1_indexOfChar_4cfef 25 = .ok (.iinc 5 1, 3) := by decide +kernel
theorem dJ1_indexOfChar_4cfef_28 : decode cJ1_indexOfChar_4cfef 28 = .ok (.goto (-21), 3) := by decide +kernel
theorem dJ1_indexOfChar_4cfef_31 : decode cJ1_indexOfChar_4cfef 31 = .ok (.iconst (-1), 1) := by decide +kernel
theorem dJ1_indexOfChar_4cfef_32 : decode cJ1_indexOfChar_4cfef 32 = .ok (.ireturn, 1) := by decide +kernel
section ZSTR2
variable {l : Launch} {b q t : Nat}
theorem zs_cwV {R : Room} {s : State} {args : Array Value} {own : String} {index maxL d n : Nat} {y : MethodName} {cc : ByteArray} {ret : FieldType} (hts : ∀ w ∈ zTs, w.before args s = true) (hl : Cond.methodLink own index y ∈ zTs) (hi : Cond.instanceMethod y ∈ zTs) (hs : Cond.selects y.cls y y ∈ zTs) (hini : Cond.initialized y.cls ∈ zTs) (hc : Cond.code y cc maxL (some ret) ∈ zTs)
    (hd : y.cls ≠ "java/lang/invoke/MethodHandle" ∧ y.cls ≠ "java/lang/invoke/VarHandle" ∧ (parseMethodDescriptor y.desc).map (fun d => d.parameters.length) = some n) (hR : d + 1 ≤ R.frames ∧ 8 + (maxL + 11) + 64 * d ≤ R.locals) :
    CallW R s args own y.cls index y cc maxL (some ret) (Cond.code y cc maxL (some ret) :: zTs) ({ frames := d, cells := 0, slots := 0, locals := 64 * d } : Room) 0 0 n := by
  refine cwV _ hts ?_ rfl rfl rfl ⟨rfl, hd⟩ hR
  intro w hw
  have hg : ∀ w ∈ zTs, GoodIn zTs [w] := fun w h w' h' => by
    rw [List.mem_singleton] at h'
    subst h'
    exact ⟨h, good_of_word (List.mem_filter.mp h).2⟩
  rcases List.mem_append.mp hw with h | h
  · simp only [List.mem_cons, List.not_mem_nil, or_false] at h
    rcases h with rfl | rfl | rfl | rfl
    · exact hg _ hl _ List.mem_cons_self
    · exact hg _ hi _ List.mem_cons_self
    · exact hg _ hs _ List.mem_cons_self
    · exact hg _ hini _ List.mem_cons_self
  · rcases List.mem_cons.mp h with h | h
    · subst h
      exact hg _ hc _ List.mem_cons_self
    · exact hg _ h _ List.mem_cons_self
theorem zs_runV {p : Program} {e : Env} {R : Room} {s : State} {m : MethodId} {args : Array Value} {below : List Frame} {meth : Method} {c : Code} {H : Heap} {locs : List Loc} {cells slots : Nat} {Q : State → Prop} {cc0 : ByteArray} {nL pc : Nat} {ls : Array Slot} {own : String} {index maxL d n : Nat} {y : MethodName} {cc : ByteArray} {ret : FieldType} {As rest : List Value} {v : Int32}
    (hx : p.tables.exec = Jvm.exec) (hb : c.code = cc0) (hml : c.maxLocals = nL) (hown : s.vm.findClass own = some m.cls) (hts : ∀ w ∈ zTs, w.before args s = true) (hX : zRX b q t s s.heap) (hH : ∀ a, a < b → H[a]? = s.heap[a]?)
    (hM : zsM l b q t y cc maxL ret d (.ref q :: As) v) (hy : y.cls = RJ0) (hl : Cond.methodLink own index y ∈ zTs) (hi : Cond.instanceMethod y ∈ zTs) (hs : Cond.selects y.cls y y ∈ zTs) (hc : Cond.code y cc maxL (some ret) ∈ zTs)
    (hd : (parseMethodDescriptor y.desc).map (fun d => d.parameters.length) = some n) (hR : d + 1 ≤ R.frames ∧ 8 + (maxL + 11) + 64 * d ≤ R.locals) (hf : cells ≤ R.cells ∧ slots ≤ R.slots) (hls : ls.size = nL) (hn : As.length = n) (hrest : (rest.map fun v => v.category).sum ≤ 8)
    (hdg : decode cc0 pc = .ok (.invokevirtual index, 3)) (kk : W p l e R s m args below meth c H locs cells slots Q (F0 m (pc + 3) ls (.int v :: rest))) : W p l e R s m args below meth c H locs cells slots Q (F0 m pc ls (As.reverse ++ .ref q :: rest)) := by
  have hini : Cond.initialized y.cls ∈ zTs := by rw [hy]; exact zw_iniJ0
  have hcls : y.cls ≠ "java/lang/invoke/MethodHandle" ∧ y.cls ≠ "java/lang/invoke/VarHandle" := by rw [hy]; exact ⟨by decide, by decide⟩
  have hrecv : ∃ cellB : Cell, H[q]? = some cellB ∧ cellB.vm.isStatics = false ∧ s.vm.findClass y.cls = some cellB.cls := by
    obtain ⟨cell, h1, h2, h3, h4⟩ := hX.1
    exact ⟨cell, by rw [hH q (Nat.lt_of_not_le h4)]; exact h1, h2, by rw [hy]; exact h3⟩
  exact zs_call (va_runV (own := own) (C := y.cls) (n := n) (g := F0 m pc ls (As.reverse ++ .ref q :: rest)) (rest := rest) (As := As) (b := q) (H := H) (locs := locs) (cells := cells) (slots := slots) (R := R) (e := e) (below := below) (meth := meth)
    ⟨hx, hb, hml, hown, hts⟩ hM (zs_cwV hts hl hi hs hini hc ⟨hcls.1, hcls.2, hd⟩ hR) ⟨zsP_blind, hrecv, fun U hU hWm => ⟨rfl, zRX.move hX hWm (fun a ha => by rw [hU]; exact hH a ha)⟩⟩ rfl hn hls rfl (by show 2 * 0 + _ ≤ 8; omega) hdg hf) kk
theorem zs_runS {p : Program} {e : Env} {R : Room} {s : State} {m : MethodId} {args : Array Value} {below : List Frame} {meth : Method} {c : Code} {H : Heap} {locs : List Loc} {cells slots : Nat} {Q : State → Prop} {cc0 : ByteArray} {nL pc : Nat} {ls : Array Slot} {own : String} {index maxL d n : Nat} {y : MethodName} {cc : ByteArray} {ret : FieldType} {As rest : List Value} {v : Int32}
    (hx : p.tables.exec = Jvm.exec) (hb : c.code = cc0) (hml : c.maxLocals = nL) (hown : s.vm.findClass own = some m.cls) (hts : ∀ w ∈ zTs, w.before args s = true) (hX : zRX b q t s s.heap) (hH : ∀ a, a < b → H[a]? = s.heap[a]?)
    (hM : zsM l b q t y cc maxL ret d As v) (hy : y.cls = RJ1) (hl : Cond.methodLink own index y ∈ zTs) (hi : Cond.static y ∈ zTs) (hc : Cond.code y cc maxL (some ret) ∈ zTs)
    (hd : (parseMethodDescriptor y.desc).map (fun d => d.parameters.length) = some n) (hR : d + 1 ≤ R.frames ∧ 8 + (maxL + 11) + 64 * d ≤ R.locals) (hf : cells ≤ R.cells ∧ slots ≤ R.slots) (hls : ls.size = nL) (hn : As.length = n) (hrest : (rest.map fun v => v.category).sum ≤ 8)
    (hdg : decode cc0 pc = .ok (.invokestatic index, 3)) (kk : W p l e R s m args below meth c H locs cells slots Q (F0 m (pc + 3) ls (.int v :: rest))) : W p l e R s m args below meth c H locs cells slots Q (F0 m pc ls (As.reverse ++ rest)) := by
  have hini : Cond.initialized y.cls ∈ zTs := by rw [hy]; exact zw_iniJ1
  have hcls : y.cls ≠ "java/lang/invoke/MethodHandle" ∧ y.cls ≠ "java/lang/invoke/VarHandle" := by rw [hy]; exact ⟨by decide, by decide⟩
  have hG : GoodIn zTs (Cond.code y cc maxL (some ret) :: zTs) := fun w hw => by
    rcases List.mem_cons.mp hw with h | h
    · subst h
      exact ⟨hc, good_of_word (List.mem_filter.mp hc).2⟩
    · exact ⟨h, good_of_word (List.mem_filter.mp h).2⟩
  exact zs_call (va_runS (own := own) (n := n) (g := F0 m pc ls (As.reverse ++ rest)) (rest := rest) (As := As) (H := H) (locs := locs) (cells := cells) (slots := slots) (R := R) (e := e) (below := below) (meth := meth)
    ⟨hx, hb, hml, hown, hts⟩ hM ⟨callB_of _ hts hG rfl rfl rfl (hts _ hini) (hts _ hl) ⟨hcls.1, hcls.2, hd⟩ hR, hts _ hi⟩ ⟨zsP_blind, fun U hU hWm => ⟨rfl, zRX.move hX hWm (fun a ha => by rw [hU]; exact hH a ha)⟩⟩ rfl hn hls rfl (by show 2 * 0 + _ ≤ 8; omega) hdg hf) kk
theorem zs_coder (d : Nat) : zsM l b q t yJ0_coder_7d493 cJ0_coder_7d493 1 .byte d [.ref q] 0 := by
  refine zs_of (by decide) (Nat.le_of_ble_eq_true rfl) ?_
  intro p e s m below meth c ls hx hb hr hml hown hts hX hk hl
  have hl : lv_has ls 1 [(0, .ref q)] := hl
  refine va_gets hx hb hX.2.2.2.2 va_S.rf hown (hts _ zw_fcomp) (fun _ h => h) dJ0_coder_7d493_0 ?_
  refine lv_if_eq hx hb dJ0_coder_7d493_3 (tgt := 13) rfl (fun h => absurd h (by decide)) (fun _ => ?_)
  refine lv_aload_n hx hb dJ0_coder_7d493_6 rfl (lv_at hl 0 rfl) ?_
  refine vk_getf hx hb hX.2.1 va_S.rf hown (hts _ zw_fcoder) (fun _ h => h) dJ0_coder_7d493_7 ?_
  refine lv_goto hx hb dJ0_coder_7d493_10 (tgt := 14) rfl ?_
  exact zs_ret hx hb hr rfl rfl hk dJ0_coder_7d493_14
theorem zs_isLatin1 (d : Nat) : zsM l b q t yJ0_isLatin1_aae02 cJ0_isLatin1_aae02 1 .boolean d [.ref q] 1 := by
  refine zs_of (by decide) (Nat.le_of_ble_eq_true rfl) ?_
  intro p e s m below meth c ls hx hb hr hml hown hts hX hk hl
  have hl : lv_has ls 1 [(0, .ref q)] := hl
  refine va_gets hx hb hX.2.2.2.2 va_S.rf hown (hts _ zw_fcomp) (fun _ h => h) dJ0_isLatin1_aae02_0 ?_
  refine lv_if_eq hx hb dJ0_isLatin1_aae02_3 (tgt := 17) rfl (fun h => absurd h (by decide)) (fun _ => ?_)
  refine lv_aload_n hx hb dJ0_isLatin1_aae02_6 rfl (lv_at hl 0 rfl) ?_
  refine vk_getf hx hb hX.2.1 va_S.rf hown (hts _ zw_fcoder) (fun _ h => h) dJ0_isLatin1_aae02_7 ?_
  refine lv_if_ne hx hb dJ0_isLatin1_aae02_10 (tgt := 17) rfl (fun h => absurd rfl h) (fun _ => ?_)
  refine lv_iconst hx hb dJ0_isLatin1_aae02_13 (v := 1) rfl ?_
  refine lv_goto hx hb dJ0_isLatin1_aae02_14 (tgt := 18) rfl ?_
  exact zs_ret hx hb hr rfl rfl hk dJ0_isLatin1_aae02_18
theorem zs_length {d : Nat} (hd : 2 ≤ d) : zsM l b q t yJ0_length_8abf5 cJ0_length_8abf5 1 .int d [.ref q] 6 := by
  refine zs_of (by decide) (Nat.le_of_ble_eq_true rfl) ?_
  intro p e s m below meth c ls hx hb hr hml hown hts hX hk hl
  have hl : lv_has ls 1 [(0, .ref q)] := hl
  refine lv_aload_n hx hb dJ0_length_8abf5_0 rfl (lv_at hl 0 rfl) ?_
  refine vk_getf hx hb hX.2.2.1 va_S.rf hown (hts _ zw_fvalue) (fun _ h => h) dJ0_length_8abf5_1 ?_
  refine va_tlen hx hb hX.2.2.2.1 va_S.rf (v := 6) rfl dJ0_length_8abf5_4 ?_
  refine lv_aload_n hx hb dJ0_length_8abf5_5 rfl (lv_at hl 0 rfl) ?_
  refine zs_runV (As := []) (rest := [.int 6]) (d := 0) hx hb hml hown hts hX (fun _ _ => rfl) (zs_coder 0) rfl zw_coder_l_RJ0 zw_coder_i zw_coder_s zw_coder_c rfl ⟨by show 0 + 1 ≤ d; omega, by show _ ≤ 64 * d; omega⟩ ⟨Nat.le_refl _, Nat.le_refl _⟩ hl.1 rfl (by decide) dJ0_length_8abf5_6 ?_
  refine lv_ishr hx hb dJ0_length_8abf5_9 ?_
  exact zs_ret (v := 6) hx hb hr rfl rfl hk dJ0_length_8abf5_10
theorem zs_canEnc (x : Int32) (hx0 : ¬ x < 0) (d : Nat) : zsM l b q t yJ1_canEncode_9a6ad cJ1_canEncode_9a6ad 1 .boolean d [.int x] (if 255 < x then 0 else 1) := by
  refine zs_of (by decide) (Nat.le_of_ble_eq_true rfl) ?_
  intro p e s m below meth c ls hx hb hr hml hown hts hX hk hl
  have hl : lv_has ls 1 [(0, .int x)] := hl
  refine lv_iload_n hx hb dJ1_canEncode_9a6ad_0 rfl (lv_at hl 0 rfl) ?_
  refine lv_if_lt hx hb dJ1_canEncode_9a6ad_1 (tgt := 15) rfl (fun h => absurd h hx0) (fun _ => ?_)
  refine lv_iload_n hx hb dJ1_canEncode_9a6ad_4 rfl (lv_at hl 0 rfl) ?_
  refine lv_sipush hx hb dJ1_canEncode_9a6ad_5 (v := 255) rfl ?_
  refine lv_icmp_gt hx hb dJ1_canEncode_9a6ad_8 (tgt := 15) rfl (fun h => ?_) (fun h => ?_)
  · rw [if_pos h]
    refine lv_iconst hx hb dJ1_canEncode_9a6ad_15 (v := 0) rfl ?_
    exact zs_ret hx hb hr rfl rfl hk dJ1_canEncode_9a6ad_16
  · rw [if_neg h]
    refine lv_iconst hx hb dJ1_canEncode_9a6ad_11 (v := 1) rfl ?_
    refine lv_goto hx hb dJ1_canEncode_9a6ad_12 (tgt := 16) rfl ?_
    exact zs_ret hx hb hr rfl rfl hk dJ1_canEncode_9a6ad_16
/-- what the loop of indexOfChar finds from place k on -/
def zIxF (x : Int32) : Nat → Nat → Int32
  | 0, _ => -1
  | n + 1, k => if zKt k = x.toInt8.toInt32 then Int32.ofNat k else zIxF x n (k + 1)
theorem zs_ixChar (x : Int32) (d : Nat) : zsM l b q t yJ1_indexOfChar_4cfef cJ1_indexOfChar_4cfef 6 .int d [.ref t, .int x, .int 0, .int 6] (zIxF x 6 0) := by
  refine zs_of (by decide) (Nat.le_of_ble_eq_true rfl) ?_
  intro p e s m below meth c ls hx hb hr hml hown hts hX hk hl
  have hl : lv_has ls 6 [(0, .ref t), (1, .int x), (2, .int 0), (3, .int 6)] := hl
  refine lv_iload_n hx hb dJ1_indexOfChar_4cfef_0 rfl (lv_at hl 1 rfl) ?_
  refine lv_i2b hx hb dJ1_indexOfChar_4cfef_1 (v := x.toInt8.toInt32) rfl ?_
  refine lv_istore hx hb dJ1_indexOfChar_4cfef_2 hl (by decide) rfl (fun ls hl => ?_)
  have hl : lv_has ls 6 [(4, .int x.toInt8.toInt32), (0, .ref t), (1, .int x), (2, .int 0), (3, .int 6)] := hl
  refine lv_iload_n hx hb dJ1_indexOfChar_4cfef_4 rfl (lv_at hl 3 rfl) ?_
  refine lv_istore hx hb dJ1_indexOfChar_4cfef_5 hl (by decide) rfl (fun ls hl => ?_)
  have hl : lv_has ls 6 [(5, .int 0), (4, .int x.toInt8.toInt32), (0, .ref t), (1, .int x), (2, .int 0), (3, .int 6)] := hl
  have loop : ∀ (n k : Nat) (ls : Array Slot), n + k = 6 → lv_has ls 6 [(5, .int (Int32.ofNat k)), (4, .int x.toInt8.toInt32), (0, .ref t), (1, .int x), (2, .int 0), (3, .int 6)] →
      W p l e ({ frames := d, cells := 0, slots := 0, locals := 64 * d } : Room) s m ([.ref t, .int x, .int 0, .int 6] : List Value).toArray below meth c s.heap [] 0 0 (MQ below (zsQ (zIxF x n k)) ([.ref t, .int x, .int 0, .int 6] : List Value).toArray s 0 0 (fun _ => False)) (F0 m 7 ls []) := by
    intro n
    induction n with
    | zero =>
      intro k ls hk6 hl
      have hk6 : k = 6 := by omega
      subst hk6
      refine lv_iload hx hb dJ1_indexOfChar_4cfef_7 (lv_at hl 0 rfl) ?_
      refine lv_iload_n hx hb dJ1_indexOfChar_4cfef_9 rfl (lv_at hl 5 rfl) ?_
      refine lv_icmp_ge hx hb dJ1_indexOfChar_4cfef_10 (tgt := 31) rfl (fun _ => ?_) (fun h => absurd (by decide) h)
      refine lv_iconst hx hb dJ1_indexOfChar_4cfef_31 (v := -1) rfl ?_
      exact zs_ret hx hb hr rfl rfl hk dJ1_indexOfChar_4cfef_32
    | succ n ih =>
      intro k ls hk6 hl
      have hlt : k < 6 := by omega
      have hc : (Int32.ofNat k).toNatClampNeg = k := (by decide : ∀ k, k < 6 → (Int32.ofNat k).toNatClampNeg = k) k hlt
      refine lv_iload hx hb dJ1_indexOfChar_4cfef_7 (lv_at hl 0 rfl) ?_
      refine lv_iload_n hx hb dJ1_indexOfChar_4cfef_9 rfl (lv_at hl 5 rfl) ?_
      refine lv_icmp_ge hx hb dJ1_indexOfChar_4cfef_10 (tgt := 31) rfl (fun h => absurd h ((by decide : ∀ k, k < 6 → ¬ (6 : Int32) ≤ Int32.ofNat k) k hlt)) (fun _ => ?_)
      refine lv_aload_n hx hb dJ1_indexOfChar_4cfef_13 rfl (lv_at hl 2 rfl) ?_
      refine lv_iload hx hb dJ1_indexOfChar_4cfef_14 (lv_at hl 0 rfl) ?_
      refine va_tb hx hb hX.2.2.2.1 va_S.rf (show ¬ (Int32.ofNat k < 0 ∨ 6 ≤ (Int32.ofNat k).toNatClampNeg) from (by decide : ∀ k, k < 6 → ¬ (Int32.ofNat k < 0 ∨ 6 ≤ (Int32.ofNat k).toNatClampNeg)) k hlt) (v := .int (zKt k)) (by show Value.int (zKt _) = _; rw [hc]) dJ1_indexOfChar_4cfef_16 ?_
      refine lv_iload hx hb dJ1_indexOfChar_4cfef_17 (lv_at hl 1 rfl) ?_
      refine lv_icmp_ne hx hb dJ1_indexOfChar_4cfef_19 (tgt := 25) rfl (fun h => ?_) (fun h => ?_)
      · refine lv_iinc hx hb dJ1_indexOfChar_4cfef_25 hl (k := 0) rfl (v := Int32.ofNat (k + 1)) ((by decide : ∀ k, k < 6 → Int32.ofNat k + Int32.ofInt 1 = Int32.ofNat (k + 1)) k hlt) (by decide) rfl (fun ls hl => ?_)
        refine lv_goto hx hb dJ1_indexOfChar_4cfef_28 (tgt := 7) rfl ?_
        have he : zIxF x (n + 1) k = zIxF x n (k + 1) := by rw [zIxF, if_neg h]
        rw [he]
        exact ih (k + 1) ls (by omega) hl
      · have he : zIxF x (n + 1) k = Int32.ofNat k := by rw [zIxF, if_pos h]
        rw [he]
        refine lv_iload hx hb dJ1_indexOfChar_4cfef_22 (lv_at hl 0 rfl) ?_
        exact zs_ret hx hb hr rfl rfl hk dJ1_indexOfChar_4cfef_24
  exact loop 6 0 ls rfl hl
theorem zs_l1ix (x : Int32) (hx0 : ¬ x < 0) {d : Nat} (hd : 2 ≤ d) : zsM l b q t yJ1_indexOf_4cfef cJ1_indexOf_4cfef 4 .int d [.ref t, .int x, .int 0, .int 6] (if 255 < x then -1 else zIxF x 6 0) := by
  refine zs_of (by decide) (Nat.le_of_ble_eq_true rfl) ?_
  intro p e s m below meth c ls hx hb hr hml hown hts hX hk hl
  have hl : lv_has ls 4 [(0, .ref t), (1, .int x), (2, .int 0), (3, .int 6)] := hl
  refine lv_iload_n hx hb dJ1_indexOf_4cfef_0 rfl (lv_at hl 1 rfl) ?_
  refine zs_runS (As := [.int x]) (rest := []) (d := 0) hx hb hml hown hts hX (fun _ _ => rfl) (zs_canEnc x hx0 0) rfl zw_canEnc_l zw_canEnc_s zw_canEnc_c rfl ⟨by show 0 + 1 ≤ d; omega, by show _ ≤ 64 * d; omega⟩ ⟨Nat.le_refl _, Nat.le_refl _⟩ hl.1 rfl (by decide) dJ1_indexOf_4cfef_1 ?_
  by_cases h : 255 < x
  · rw [if_pos h, if_pos h]
    refine lv_if_ne hx hb dJ1_indexOf_4cfef_4 (tgt := 9) rfl (fun h => absurd rfl h) (fun _ => ?_)
    refine lv_iconst hx hb dJ1_indexOf_4cfef_7 (v := -1) rfl ?_
    exact zs_ret hx hb hr rfl rfl hk dJ1_indexOf_4cfef_8
  · rw [if_neg h, if_neg h]
    refine lv_if_ne hx hb dJ1_indexOf_4cfef_4 (tgt := 9) rfl (fun _ => ?_) (fun h => absurd h (by decide))
    refine lv_iload_n hx hb dJ1_indexOf_4cfef_9 rfl (lv_at hl 2 rfl) ?_
    refine lv_iconst hx hb dJ1_indexOf_4cfef_10 (v := 0) rfl ?_
    refine va_mmax hx hb (by rw [hml]; exact hl.1.symm) hown (hts _ zw_j_max) (hts _ (zTs_of zw_maxS rfl)) (hts _ (zTs_of zw_math rfl)) (hts _ (zTs_of zw_maxC rfl)) (by show 1 ≤ d; omega) (by show 0 + 13 ≤ 64 * d; omega) (Nat.le_refl _) (Nat.le_refl _) dJ1_indexOf_4cfef_11 ?_
    refine lv_istore_n hx hb dJ1_indexOf_4cfef_14 rfl hl (by decide) rfl (fun ls hl => ?_)
    have hl : lv_has ls 4 [(2, .int 0), (0, .ref t), (1, .int x), (3, .int 6)] := hl
    refine lv_iload_n hx hb dJ1_indexOf_4cfef_15 rfl (lv_at hl 3 rfl) ?_
    refine lv_aload_n hx hb dJ1_indexOf_4cfef_16 rfl (lv_at hl 1 rfl) ?_
    refine va_tlen hx hb hX.2.2.2.1 va_S.rf (v := 6) rfl dJ1_indexOf_4cfef_17 ?_
    refine va_mmin hx hb (by rw [hml]; exact hl.1.symm) hown (hts _ zw_j_min) (hts _ (zTs_of zw_minS rfl)) (hts _ (zTs_of zw_math rfl)) (hts _ (zTs_of zw_minC rfl)) (by show 1 ≤ d; omega) (by show 0 + 13 ≤ 64 * d; omega) (Nat.le_refl _) (Nat.le_refl _) dJ1_indexOf_4cfef_18 ?_
    refine lv_istore_n hx hb dJ1_indexOf_4cfef_21 rfl hl (by decide) rfl (fun ls hl => ?_)
    have hl : lv_has ls 4 [(3, .int 6), (2, .int 0), (0, .ref t), (1, .int x)] := hl
    refine lv_iload_n hx hb dJ1_indexOf_4cfef_22 rfl (lv_at hl 1 rfl) ?_
    refine lv_iload_n hx hb dJ1_indexOf_4cfef_23 rfl (lv_at hl 0 rfl) ?_
    refine lv_icmp_lt hx hb dJ1_indexOf_4cfef_24 (tgt := 29) rfl (fun _ => ?_) (fun h => absurd (by decide) h)
    refine lv_aload_n hx hb dJ1_indexOf_4cfef_29 rfl (lv_at hl 2 rfl) ?_
    refine lv_iload_n hx hb dJ1_indexOf_4cfef_30 rfl (lv_at hl 3 rfl) ?_
    refine lv_iload_n hx hb dJ1_indexOf_4cfef_31 rfl (lv_at hl 1 rfl) ?_
    refine lv_iload_n hx hb dJ1_indexOf_4cfef_32 rfl (lv_at hl 0 rfl) ?_
    refine zs_runS (As := [.ref t, .int x, .int 0, .int 6]) (rest := []) (d := 0) hx hb hml hown hts hX (fun _ _ => rfl) (zs_ixChar x 0) rfl zw_ixChar_l zw_ixChar_s zw_ixChar_c rfl ⟨by show 0 + 1 ≤ d; omega, by show _ ≤ 64 * d; omega⟩ ⟨Nat.le_refl _, Nat.le_refl _⟩ hl.1 rfl (by decide) dJ1_indexOf_4cfef_33 ?_
    exact zs_ret hx hb hr rfl rfl hk dJ1_indexOf_4cfef_36
theorem zs_ix2 (x : Int32) (hx0 : ¬ x < 0) {d : Nat} (hd : 4 ≤ d) : zsM l b q t yJ0_indexOf_7cf53 cJ0_indexOf_7cf53 3 .int d [.ref q, .int x, .int 0] (if 255 < x then -1 else zIxF x 6 0) := by
  refine zs_of (by decide) (Nat.le_of_ble_eq_true rfl) ?_
  intro p e s m below meth c ls hx hb hr hml hown hts hX hk hl
  have hl : lv_has ls 3 [(0, .ref q), (1, .int x), (2, .int 0)] := hl
  refine lv_aload_n hx hb dJ0_indexOf_7cf53_0 rfl (lv_at hl 0 rfl) ?_
  refine zs_runV (As := []) (rest := []) (d := 0) hx hb hml hown hts hX (fun _ _ => rfl) (zs_isLatin1 0) rfl zw_isLatin1_l_RJ0 zw_isLatin1_i zw_isLatin1_s zw_isLatin1_c rfl ⟨by show 0 + 1 ≤ d; omega, by show _ ≤ 64 * d; omega⟩ ⟨Nat.le_refl _, Nat.le_refl _⟩ hl.1 rfl (by decide) dJ0_indexOf_7cf53_1 ?_
  refine lv_if_eq hx hb dJ0_indexOf_7cf53_4 (tgt := 23) rfl (fun h => absurd h (by decide)) (fun _ => ?_)
  refine lv_aload_n hx hb dJ0_indexOf_7cf53_7 rfl (lv_at hl 0 rfl) ?_
  refine vk_getf hx hb hX.2.2.1 va_S.rf hown (hts _ zw_fvalue) (fun _ h => h) dJ0_indexOf_7cf53_8 ?_
  refine lv_iload_n hx hb dJ0_indexOf_7cf53_11 rfl (lv_at hl 1 rfl) ?_
  refine lv_iload_n hx hb dJ0_indexOf_7cf53_12 rfl (lv_at hl 2 rfl) ?_
  refine lv_aload_n hx hb dJ0_indexOf_7cf53_13 rfl (lv_at hl 0 rfl) ?_
  refine zs_runV (As := []) (rest := [.int 0, .int x, .ref t]) (d := 2) hx hb hml hown hts hX (fun _ _ => rfl) (zs_length (Nat.le_refl _)) rfl zw_length_l_RJ0 zw_length_i zw_length_s zw_length_c rfl ⟨by show 2 + 1 ≤ d; omega, by show _ ≤ 64 * d; omega⟩ ⟨Nat.le_refl _, Nat.le_refl _⟩ hl.1 rfl (by show 1 + (1 + (1 + 0)) ≤ 8; omega) dJ0_indexOf_7cf53_14 ?_
  refine zs_runS (As := [.ref t, .int x, .int 0, .int 6]) (rest := []) (d := 2) hx hb hml hown hts hX (fun _ _ => rfl) (zs_l1ix x hx0 (Nat.le_refl _)) rfl zw_l1ix_l zw_l1ix_s zw_l1ix_c rfl ⟨by show 2 + 1 ≤ d; omega, by show _ ≤ 64 * d; omega⟩ ⟨Nat.le_refl _, Nat.le_refl _⟩ hl.1 rfl (by decide) dJ0_indexOf_7cf53_17 ?_
  refine lv_goto hx hb dJ0_indexOf_7cf53_20 (tgt := 36) rfl ?_
  exact zs_ret hx hb hr rfl rfl hk dJ0_indexOf_7cf53_36
theorem zs_ix1 (x : Int32) (hx0 : ¬ x < 0) {d : Nat} (hd : 6 ≤ d) : zsM l b q t yJ0_indexOf_0f7a4 cJ0_indexOf_0f7a4 2 .int d [.ref q, .int x] (if 255 < x then -1 else zIxF x 6 0) := by
  refine zs_of (by decide) (Nat.le_of_ble_eq_true rfl) ?_
  intro p e s m below meth c ls hx hb hr hml hown hts hX hk hl
  have hl : lv_has ls 2 [(0, .ref q), (1, .int x)] := hl
  refine lv_aload_n hx hb dJ0_indexOf_0f7a4_0 rfl (lv_at hl 0 rfl) ?_
  refine lv_iload_n hx hb dJ0_indexOf_0f7a4_1 rfl (lv_at hl 1 rfl) ?_
  refine lv_iconst hx hb dJ0_indexOf_0f7a4_2 (v := 0) rfl ?_
  refine zs_runV (As := [.int x, .int 0]) (rest := []) (d := 4) hx hb hml hown hts hX (fun _ _ => rfl) (zs_ix2 x hx0 (Nat.le_refl _)) rfl zw_indexOf2_l_RJ0 zw_indexOf2_i zw_indexOf2_s zw_indexOf2_c rfl ⟨by show 4 + 1 ≤ d; omega, by show _ ≤ 64 * d; omega⟩ ⟨Nat.le_refl _, Nat.le_refl _⟩ hl.1 rfl (by decide) dJ0_indexOf_0f7a4_3 ?_
  exact zs_ret hx hb hr rfl rfl hk dJ0_indexOf_0f7a4_6
theorem zix_eq {x : Int32} (hx0 : ¬ x < 0) : (if 255 < x then -1 else zIxF x 6 0) = zidx x := by
  by_cases h : 255 < x
  · rw [if_pos h]
    have h1 : ∀ k : Int32, k ≤ 255 → x ≠ k := fun k hk e => by
      rw [e] at h
      exact absurd hk (Int32.not_le.mpr h)
    unfold zidx
    rw [if_neg (h1 _ (by decide)), if_neg (h1 _ (by decide)), if_neg (h1 _ (by decide)), if_neg (h1 _ (by decide)), if_neg (h1 _ (by decide)), if_neg (h1 _ (by decide))]
  · rw [if_neg h]
    have h2 : x.toInt ≤ 255 := Int32.le_iff_toInt_le.mp (Int32.not_lt.mp h)
    have h3 : 0 ≤ x.toInt := Int32.le_iff_toInt_le.mp (Int32.not_lt.mp hx0)
    have h4 : x = Int32.ofNat x.toInt.toNat := by
      have h6 : Int32.ofNat x.toInt.toNat = Int32.ofInt (x.toInt.toNat : Int) := (Int32.ofInt_eq_ofNat).symm
      rw [h6, Int.toNat_of_nonneg h3, Int32.ofInt_toInt]
    rw [h4]
    have h5 : x.toInt.toNat < 256 := by omega
    exact (by decide +kernel : ∀ n, n < 256 → zIxF (Int32.ofNat n) 6 0 = zidx (Int32.ofNat n)) _ h5
end ZSTR2
