/-! ===== the clean machine is sound: worlds, contexts, steps ===== -/
def zTs : List Cond := lw_tbl.filter goodWord
theorem zTs_of {w : Cond} (h : w ∈ lw_tbl) (g : goodWord w = true) : w ∈ zTs := List.mem_filter.mpr ⟨h, g⟩
def zt (b : Nat) (sp : UInt32 → Nat) (v : Value) : Value := match v with
  | .ref k => .ref (b + k)
  | .float f => .ref (sp f)
  | v => v
theorem zt_cat (b : Nat) (sp : UInt32 → Nat) (v : Value) : (zt b sp v).category = v.category := by cases v <;> rfl
def zE (b : Nat) (sp : UInt32 → Nat) (cy : Nat → ClassId) (M : zMem) (k : Nat) : va_E :=
  if (zK M k).1 < 13 then .inr ((zK M k).1, (List.range (zNf (zK M k).1)).map (fun j => zt b sp (zfv M (zK M k).1 k j)))
  else if (zK M k).1 = 17 then .inl (cy 17, (zK M k).2, .inr (.inl (zJ M k)))
  else if (zK M k).1 = 15 ∨ (zK M k).1 = 16 then .inl (cy (zK M k).1, (zK M k).2, .inr (.inr (.inr (.inr (fun j => (zR M k j).map (fun r => b + r))))))
  else .inl (cy (zK M k).1, (zK M k).2, .inl (zI M k))
theorem zE_obj {b : Nat} {sp : UInt32 → Nat} {cy : Nat → ClassId} {M : zMem} {k c : Nat} (h : (zK M k).1 = c) (hc : c < 13) : zE b sp cy M k = .inr (c, (List.range (zNf c)).map (fun j => zt b sp (zfv M c k j))) := by
  subst h
  unfold zE
  rw [if_pos hc]
theorem zE_13 {b : Nat} {sp : UInt32 → Nat} {cy : Nat → ClassId} {M : zMem} {k : Nat} (h : (zK M k).1 = 13) : zE b sp cy M k = .inl (cy 13, (zK M k).2, .inl (zI M k)) := by
  unfold zE
  rw [h]
  rfl
theorem zE_14 {b : Nat} {sp : UInt32 → Nat} {cy : Nat → ClassId} {M : zMem} {k : Nat} (h : (zK M k).1 = 14) : zE b sp cy M k = .inl (cy 14, (zK M k).2, .inl (zI M k)) := by
  unfold zE
  rw [h]
  rfl
theorem zE_17 {b : Nat} {sp : UInt32 → Nat} {cy : Nat → ClassId} {M : zMem} {k : Nat} (h : (zK M k).1 = 17) : zE b sp cy M k = .inl (cy 17, (zK M k).2, .inr (.inl (zJ M k))) := by
  unfold zE
  rw [h]
  rfl
theorem zE_15 {b : Nat} {sp : UInt32 → Nat} {cy : Nat → ClassId} {M : zMem} {k : Nat} (h : (zK M k).1 = 15) : zE b sp cy M k = .inl (cy 15, (zK M k).2, .inr (.inr (.inr (.inr (fun j => (zR M k j).map (fun r => b + r)))))) := by
  unfold zE
  rw [h]
  rfl
theorem zE_16 {b : Nat} {sp : UInt32 → Nat} {cy : Nat → ClassId} {M : zMem} {k : Nat} (h : (zK M k).1 = 16) : zE b sp cy M k = .inl (cy 16, (zK M k).2, .inr (.inr (.inr (.inr (fun j => (zR M k j).map (fun r => b + r)))))) := by
  unfold zE
  rw [h]
  rfl
theorem zE_congr {b : Nat} {sp : UInt32 → Nat} {cy : Nat → ClassId} {M M' : zMem} {k : Nat} (h1 : zK M' k = zK M k) (h2 : zR M' k = zR M k) (h3 : zI M' k = zI M k) (h4 : zJ M' k = zJ M k) : zE b sp cy M' k = zE b sp cy M k := by
  unfold zE zfv
  rw [h1, h2, h3, h4]
theorem zup_ne {α : Type} {f : Nat → Nat → α} {a j k : Nat} {v : α} (h : k ≠ a) : zup f a j v k = f k := by
  funext x
  simp [zup, h]
theorem zup_eq {α : Type} {f : Nat → Nat → α} {a j : Nat} {v : α} : zup f a j v a = fun x => if x = j then v else f a x := by
  funext x
  simp [zup]
theorem zrow_ne {α : Type} {f : Nat → Nat → α} {a k : Nat} {g : Nat → α} (h : k ≠ a) : zrow f a g k = f k := by
  funext x
  simp [zrow, h]
theorem zrow_eq {α : Type} {f : Nat → Nat → α} {a : Nat} {g : Nat → α} : zrow f a g a = g := by
  funext x
  simp [zrow]
def zWd (b : Nat) (sp : UInt32 → Nat) (cy : Nat → ClassId) (D : va_G) (M : zMem) (H : Heap) : Prop := H.size = b + zN M ∧ ∀ k, (zK M k).1 < 99 → k < zN M ∧ va_at D vwCl (b + k, zE b sp cy M k) H
theorem zWd.P {b : Nat} {sp : UInt32 → Nat} {cy : Nat → ClassId} {D : va_G} {M : zMem} {H : Heap} (hW : zWd b sp cy D M H) {a : Nat} (ha : (zK M a).1 < 99) : va_P D vwCl [(b + a, zE b sp cy M a)] H := by
  intro k q hq
  match k, hq with
  | 0, hq => cases hq; exact (hW.2 a ha).2
  | k + 1, hq => simp at hq
theorem zWd.upd {b : Nat} {sp : UInt32 → Nat} {cy : Nat → ClassId} {D : va_G} {M M' : zMem} {H H1 : Heap} {a : Nat} (hW : zWd b sp cy D M H) (z : H1.size = H.size) (oq : ∀ q, q ≠ b + a → H1[q]? = H[q]?) (hn : zN M' = zN M) (hK : zK M' = zK M) (hE : ∀ k, k ≠ a → zE b sp cy M' k = zE b sp cy M k) (he : va_at D vwCl (b + a, zE b sp cy M' a) H1) : zWd b sp cy D M' H1 := by
  refine ⟨by rw [z, hW.1, hn], fun k hk => ?_⟩
  by_cases e : k = a
  · subst e; exact ⟨by rw [hn]; exact (hW.2 k (by rw [← hK]; exact hk)).1, he⟩
  · rw [hE k e]; exact ⟨by rw [hn]; exact (hW.2 k (by rw [← hK]; exact hk)).1, (hW.2 k (by rw [← hK]; exact hk)).2.kept (oq _ (by show b + k ≠ b + a; omega))⟩
theorem zWd.push {b : Nat} {sp : UInt32 → Nat} {cy : Nat → ClassId} {D : va_G} {M : zMem} {H H1 : Heap} {kd len sl : Nat} (hW : zWd b sp cy D M H) (z : H1.size = b + zN M + 1) (oq : ∀ q, q < b + zN M → H1[q]? = H[q]?) (he : va_at D vwCl (b + zN M, zE b sp cy (znew M kd len sl) (zN M)) H1) : zWd b sp cy D (znew M kd len sl) H1 := by
  refine ⟨by rw [z]; rfl, fun k hk => ?_⟩
  by_cases e : k = zN M
  · rw [e]; exact ⟨Nat.lt_succ_self _, he⟩
  · have hkk : zK (znew M kd len sl) k = zK M k := by show (if k = M.1.1 then _ else _) = _; rw [if_neg e]
    rw [hkk] at hk
    rw [zE_congr (M := M) (k := k) hkk (zrow_ne e) (zrow_ne e) (zrow_ne e)]
    have h9 := hW.2 k hk
    exact ⟨Nat.lt_succ_of_lt h9.1, h9.2.kept (oq _ (by show b + k < b + zN M; omega))⟩
def zNests : List Cond := lw_tbl.filter (fun w => match w with
  | .methodLinkNest _ _ _ _ => true
  | _ => false)
/-- a fact of old cells that outlives all -/
def zXst (b : Nat) (X : State → Heap → Prop) : Prop := ∀ (s U : State) (H H1 : Heap), X s H → s.WarmedH U.vm → (∀ q, q < b → H1[q]? = H[q]?) → X U H1
def zOld (b : Nat) (sp : UInt32 → Nat) (sc : zSc) (X : State → Heap → Prop) (U : State) (H : Heap) : Prop :=
  b ≤ H.size ∧ sp 0 < b ∧ va_X (sp 0) sc.1 sc.2 U H ∧ sp 1 < b ∧ va_T .int (sp 1) 48 (fun j => .int (zitem j)) (fun q => b ≤ q) U H ∧ va_Z RX1 "ITEM" "[I" (.ref (sp 1)) (fun q => b ≤ q) U H ∧ (∀ w ∈ zNests, va_Nw w U) ∧ va_AO RX4 U ∧ va_AO RX8 U ∧ X U H
theorem zOld.move {b : Nat} {sp : UInt32 → Nat} {sc : zSc} {X : State → Heap → Prop} {s U : State} {H H1 : Heap} (hX : zXst b X) (h : zOld b sp sc X s H) (hW : s.WarmedH U.vm) (hq : ∀ q, q < b → H1[q]? = H[q]?) (hz : b ≤ H1.size) : zOld b sp sc X U H1 := by
  obtain ⟨h0, h1, h2, h3, h4, h5, h6, h6a, h6b, h7⟩ := h
  refine ⟨hz, h1, va_X.moved hW.alike (h2.kept (hq _ h1)), h3, va_T.moved hW.alike (h4.kept fun a _ ha => hq a (Nat.lt_of_not_le ha)), va_Z.moved hW.alike (h5.kept fun a _ ha => hq a (Nat.lt_of_not_le ha)), fun w hw => ?_, va_AO.moved hW.alike h6a, va_AO.moved hW.alike h6b, hX _ _ _ _ h7 hW hq⟩
  have h8 := h6 w hw
  have h9 := (List.mem_filter.mp hw).2
  cases w <;> first | (simp at h9; done) | exact va_Nw.warmM hW h8
def zCx (p : Program) (s : State) (m : MethodId) (args : Array Value) (meth : Method) (c : Code) (cc : ByteArray) (nL own : Nat) (ini : Bool) (b : Nat) (sp : UInt32 → Nat) (cy : Nat → ClassId) (D : va_G) (sc : zSc) (X : State → Heap → Prop) : Prop :=
  p.tables.exec = Jvm.exec ∧ c.code = cc ∧ c.maxLocals = nL ∧ s.vm.findClass (zRN own) = some m.cls ∧ (∀ w ∈ zTs, w.before args s = true) ∧ va_K D vwCl [(cy 13, .int), (cy 14, .boolean), (cy 15, .object RX4), (cy 16, .object RX8), (cy 17, .long)] s ∧ zOld b sp sc X s s.heap ∧ (ini = true → meth.name = "<init>") ∧ meth.locks = false
def zLR (b : Nat) (sp : UInt32 → Nat) (ls : Array Slot) (nL : Nat) (L : List (Option Value)) : Prop := ls.size = nL ∧ lv_wf ls ∧ L.length = nL ∧ ∀ (i : Nat) (v : Value), L[i]? = some (some v) → ls[i]? = some (.val (zt b sp v))
theorem zld_eq {L : List (Option Value)} {i : Nat} {v : Value} (h : zld L i = some v) : L[i]? = some (some v) := by
  unfold zld at h
  split at h
  · rename_i w hw
    cases h
    exact hw
  · cases h
theorem zld_of {L : List (Option Value)} {i : Nat} {v : Value} (h : L[i]? = some (some v)) : zld L i = some v := by
  unfold zld
  rw [h]
theorem zLR.ld {b : Nat} {sp : UInt32 → Nat} {ls : Array Slot} {nL : Nat} {L : List (Option Value)} (h : zLR b sp ls nL L) {i : Nat} {v : Value} (hv : zld L i = some v) : ls[i]? = some (.val (zt b sp v)) := h.2.2.2 i v (zld_eq hv)
def zasc (b : Nat) (sp : UInt32 → Nat) (L : List (Option Value)) : List (Nat × Value) := (List.range L.length).filterMap (fun i => (zld L i).map (fun v => (i, zt b sp v)))
theorem zasc_mem {b : Nat} {sp : UInt32 → Nat} {L : List (Option Value)} {i : Nat} {v : Value} (h : zld L i = some v) : (i, zt b sp v) ∈ zasc b sp L := by
  refine List.mem_filterMap.mpr ⟨i, List.mem_range.mpr ?_, by rw [h]; rfl⟩
  exact (List.getElem?_eq_some_iff.mp (zld_eq h)).1
theorem zLR.has {b : Nat} {sp : UInt32 → Nat} {ls : Array Slot} {nL : Nat} {L : List (Option Value)} (h : zLR b sp ls nL L) : lv_has ls nL (zasc b sp L) := by
  refine ⟨h.1, h.2.1, fun q hq => ?_⟩
  obtain ⟨i, -, hi⟩ := List.mem_filterMap.mp hq
  cases hv : zld L i with
  | none => rw [hv] at hi; cases hi
  | some v =>
    rw [hv] at hi
    cases hi
    exact h.ld hv
theorem zclr_len (L : List (Option Value)) (i : Nat) : (zclr L i).length = L.length := by
  unfold zclr
  split
  · rfl
  · split
    · split <;> simp
    · rfl
theorem zclr_get {L : List (Option Value)} {i j : Nat} {v : Value} (h : (zclr L i)[j]? = some (some v)) : zld L j = some v ∧ ¬ (j + 1 = i ∧ v.category = 2) := by
  unfold zclr at h
  split at h
  · exact ⟨zld_of h, by omega⟩
  · rename_i k
    split at h
    · rename_i w hw
      split at h
      · rename_i hc
        by_cases e : k = j
        · subst e
          rw [List.getElem?_set] at h
          simp at h
        · rw [List.getElem?_set_ne e] at h
          exact ⟨zld_of h, by omega⟩
      · rename_i hc
        refine ⟨zld_of h, fun q => ?_⟩
        have e : j = k := by omega
        subst e
        have := hw.symm.trans (zld_of h)
        cases this
        exact hc q.2
    · rename_i hw
      refine ⟨zld_of h, fun q => ?_⟩
      have e : j = k := by omega
      subst e
      rw [zld_of h] at hw
      cases hw
theorem zLR.st1 {b : Nat} {sp : UInt32 → Nat} {ls' : Array Slot} {nL i : Nat} {L : List (Option Value)} {v : Value} (hl : L.length = nL) (h : lv_has ls' nL ((i, zt b sp v) :: (zasc b sp L).filter (fun q => !(q.1 == i) && !(q.1 + 1 == i && q.2.category == 2)))) : zLR b sp ls' nL (zst1 L i v) := by
  refine ⟨h.1, h.2.1, by simp [zst1, zclr_len, hl], fun j w hw => ?_⟩
  unfold zst1 at hw
  by_cases e : i = j
  · subst e
    rw [List.getElem?_set] at hw
    simp at hw
    rw [← hw.2]
    exact h.2.2 _ List.mem_cons_self
  · rw [List.getElem?_set_ne e] at hw
    obtain ⟨h1, h2⟩ := zclr_get hw
    refine h.2.2 (j, zt b sp w) (List.mem_cons_of_mem _ (List.mem_filter.mpr ⟨zasc_mem h1, ?_⟩))
    have e' : ¬ j = i := fun q => e q.symm
    simp [e', zt_cat]
    exact if q : j + 1 = i then Or.inr (fun r => h2 ⟨q, r⟩) else Or.inl q
theorem zLR.st2 {b : Nat} {sp : UInt32 → Nat} {ls' : Array Slot} {nL i : Nat} {L : List (Option Value)} {v : Value} (hl : L.length = nL) (h : lv_has ls' nL ((i, zt b sp v) :: (zasc b sp L).filter (fun q => !(q.1 == i) && (!(q.1 == i + 1) && !(q.1 + 1 == i && q.2.category == 2))))) : zLR b sp ls' nL (zst2 L i v) := by
  refine ⟨h.1, h.2.1, by simp [zst2, zclr_len, hl], fun j w hw => ?_⟩
  unfold zst2 at hw
  by_cases e1 : i + 1 = j
  · subst e1
    rw [List.getElem?_set] at hw
    simp at hw
  · rw [List.getElem?_set_ne e1] at hw
    by_cases e : i = j
    · subst e
      rw [List.getElem?_set] at hw
      simp at hw
      rw [← hw.2]
      exact h.2.2 _ List.mem_cons_self
    · rw [List.getElem?_set_ne e] at hw
      obtain ⟨h1, h2⟩ := zclr_get hw
      refine h.2.2 (j, zt b sp w) (List.mem_cons_of_mem _ (List.mem_filter.mpr ⟨zasc_mem h1, ?_⟩))
      have e' : ¬ j = i := fun q => e q.symm
      have e1' : ¬ j = i + 1 := fun q => e1 q.symm
      simp [e', e1', zt_cat]
      exact if q : j + 1 = i then Or.inr (fun r => h2 ⟨q, r⟩) else Or.inl q
section ZS
variable {p : Program} {l : Launch} {e : Env} {R : Room} {s : State} {m : MethodId} {args : Array Value} {below : List Frame} {meth : Method} {c : Code} {Q : State → Prop}
variable {cc : ByteArray} {b nL own n0 s0 pc pc' : Nat} {sp : UInt32 → Nat} {cy : Nat → ClassId} {D : va_G} {sc : zSc} {X : State → Heap → Prop} {ini : Bool} {L L' : List (Option Value)} {S S' : List Value} {M M' : zMem}
/-- from these clean states the machine comes to Q -/
def zGo (p : Program) (l : Launch) (e : Env) (R : Room) (s : State) (m : MethodId) (args : Array Value) (below : List Frame) (meth : Method) (c : Code) (Q : State → Prop) (b nL n0 s0 : Nat) (sp : UInt32 → Nat) (cy : Nat → ClassId) (D : va_G) (pc : Nat) (L : List (Option Value)) (S : List Value) (M : zMem) : Prop :=
  ∀ (H : Heap) (locs : List Loc) (ls : Array Slot), zWd b sp cy D M H → va_S (fun q => b ≤ q) s.heap H locs → zLR b sp ls nL L → W p l e R s m args below meth c H locs (zN M - n0) (zS M - s0) Q (F0 m pc ls (S.map (zt b sp)))
theorem zi1_go {f : Int32 → Value} (hz : zi1 pc L S M f = some (pc', L', S', M'))
    (row : ∀ (H : Heap) (locs : List Loc) (ls : Array Slot) (rest : List Value) (x : Int32), W p l e R s m args below meth c H locs (zN M - n0) (zS M - s0) Q (F0 m (pc + 1) ls (zt b sp (f x) :: rest)) → W p l e R s m args below meth c H locs (zN M - n0) (zS M - s0) Q (F0 m pc ls (.int x :: rest)))
    (k : zGo p l e R s m args below meth c Q b nL n0 s0 sp cy D pc' L' S' M') : zGo p l e R s m args below meth c Q b nL n0 s0 sp cy D pc L S M := by
  unfold zi1 at hz
  split at hz
  · simp only [Option.some.injEq, Prod.mk.injEq] at hz
    obtain ⟨rfl, rfl, rfl, rfl⟩ := hz
    intro H locs ls hW hS hL
    exact row H locs ls _ _ (k H locs ls hW hS hL)
  · cases hz
theorem zi2_go {f : Int32 → Int32 → Int32} (hz : zi2 pc L S M f = some (pc', L', S', M'))
    (row : ∀ (H : Heap) (locs : List Loc) (ls : Array Slot) (rest : List Value) (x y : Int32), W p l e R s m args below meth c H locs (zN M - n0) (zS M - s0) Q (F0 m (pc + 1) ls (.int (f x y) :: rest)) → W p l e R s m args below meth c H locs (zN M - n0) (zS M - s0) Q (F0 m pc ls (.int y :: .int x :: rest)))
    (k : zGo p l e R s m args below meth c Q b nL n0 s0 sp cy D pc' L' S' M') : zGo p l e R s m args below meth c Q b nL n0 s0 sp cy D pc L S M := by
  unfold zi2 at hz
  split at hz
  · simp only [Option.some.injEq, Prod.mk.injEq] at hz
    obtain ⟨rfl, rfl, rfl, rfl⟩ := hz
    intro H locs ls hW hS hL
    exact row H locs ls _ _ _ (k H locs ls hW hS hL)
  · cases hz
theorem zid_go {f : Int32 → Int32 → Int32} (hz : zid pc L S M f = some (pc', L', S', M'))
    (row : ∀ (H : Heap) (locs : List Loc) (ls : Array Slot) (rest : List Value) (x y : Int32), ¬ y = 0 → W p l e R s m args below meth c H locs (zN M - n0) (zS M - s0) Q (F0 m (pc + 1) ls (.int (f x y) :: rest)) → W p l e R s m args below meth c H locs (zN M - n0) (zS M - s0) Q (F0 m pc ls (.int y :: .int x :: rest)))
    (k : zGo p l e R s m args below meth c Q b nL n0 s0 sp cy D pc' L' S' M') : zGo p l e R s m args below meth c Q b nL n0 s0 sp cy D pc L S M := by
  unfold zid at hz
  split at hz
  · split at hz
    · cases hz
    · rename_i h0
      simp only [Option.some.injEq, Prod.mk.injEq] at hz
      obtain ⟨rfl, rfl, rfl, rfl⟩ := hz
      intro H locs ls hW hS hL
      exact row H locs ls _ _ _ h0 (k H locs ls hW hS hL)
  · cases hz
theorem zl2_go {f : Int64 → Int64 → Int64} (hz : zl2 pc L S M f = some (pc', L', S', M'))
    (row : ∀ (H : Heap) (locs : List Loc) (ls : Array Slot) (rest : List Value) (x y : Int64), W p l e R s m args below meth c H locs (zN M - n0) (zS M - s0) Q (F0 m (pc + 1) ls (.long (f x y) :: rest)) → W p l e R s m args below meth c H locs (zN M - n0) (zS M - s0) Q (F0 m pc ls (.long y :: .long x :: rest)))
    (k : zGo p l e R s m args below meth c Q b nL n0 s0 sp cy D pc' L' S' M') : zGo p l e R s m args below meth c Q b nL n0 s0 sp cy D pc L S M := by
  unfold zl2 at hz
  split at hz
  · simp only [Option.some.injEq, Prod.mk.injEq] at hz
    obtain ⟨rfl, rfl, rfl, rfl⟩ := hz
    intro H locs ls hW hS hL
    exact row H locs ls _ _ _ (k H locs ls hW hS hL)
  · cases hz
theorem zldn_go {f : Int64 → Int64 → Int64} (hz : zldn pc L S M f = some (pc', L', S', M'))
    (row : ∀ (H : Heap) (locs : List Loc) (ls : Array Slot) (rest : List Value) (x y : Int64), ¬ y = 0 → W p l e R s m args below meth c H locs (zN M - n0) (zS M - s0) Q (F0 m (pc + 1) ls (.long (f x y) :: rest)) → W p l e R s m args below meth c H locs (zN M - n0) (zS M - s0) Q (F0 m pc ls (.long y :: .long x :: rest)))
    (k : zGo p l e R s m args below meth c Q b nL n0 s0 sp cy D pc' L' S' M') : zGo p l e R s m args below meth c Q b nL n0 s0 sp cy D pc L S M := by
  unfold zldn at hz
  split at hz
  · split at hz
    · cases hz
    · rename_i h0
      simp only [Option.some.injEq, Prod.mk.injEq] at hz
      obtain ⟨rfl, rfl, rfl, rfl⟩ := hz
      intro H locs ls hW hS hL
      exact row H locs ls _ _ _ h0 (k H locs ls hW hS hL)
  · cases hz
theorem zlsh_go {f : Int64 → Int32 → Int64} (hz : zlsh pc L S M f = some (pc', L', S', M'))
    (row : ∀ (H : Heap) (locs : List Loc) (ls : Array Slot) (rest : List Value) (x : Int64) (y : Int32), W p l e R s m args below meth c H locs (zN M - n0) (zS M - s0) Q (F0 m (pc + 1) ls (.long (f x y) :: rest)) → W p l e R s m args below meth c H locs (zN M - n0) (zS M - s0) Q (F0 m pc ls (.int y :: .long x :: rest)))
    (k : zGo p l e R s m args below meth c Q b nL n0 s0 sp cy D pc' L' S' M') : zGo p l e R s m args below meth c Q b nL n0 s0 sp cy D pc L S M := by
  unfold zlsh at hz
  split at hz
  · simp only [Option.some.injEq, Prod.mk.injEq] at hz
    obtain ⟨rfl, rfl, rfl, rfl⟩ := hz
    intro H locs ls hW hS hL
    exact row H locs ls _ _ _ (k H locs ls hW hS hL)
  · cases hz
theorem zil_go {q i : Nat} (hz : zil q i L S M = some (pc', L', S', M'))
    (row : ∀ (H : Heap) (locs : List Loc) (ls : Array Slot) (rest : List Value) (x : Int32), ls[i]? = some (.val (.int x)) → W p l e R s m args below meth c H locs (zN M - n0) (zS M - s0) Q (F0 m q ls (.int x :: rest)) → W p l e R s m args below meth c H locs (zN M - n0) (zS M - s0) Q (F0 m pc ls rest))
    (k : zGo p l e R s m args below meth c Q b nL n0 s0 sp cy D pc' L' S' M') : zGo p l e R s m args below meth c Q b nL n0 s0 sp cy D pc L S M := by
  unfold zil at hz
  split at hz
  · rename_i h0
    simp only [Option.some.injEq, Prod.mk.injEq] at hz
    obtain ⟨rfl, rfl, rfl, rfl⟩ := hz
    intro H locs ls hW hS hL
    exact row H locs ls _ _ (hL.ld h0) (k H locs ls hW hS hL)
  · cases hz
theorem zll_go {q i : Nat} (hz : zll q i L S M = some (pc', L', S', M'))
    (row : ∀ (H : Heap) (locs : List Loc) (ls : Array Slot) (rest : List Value) (x : Int64), ls[i]? = some (.val (.long x)) → W p l e R s m args below meth c H locs (zN M - n0) (zS M - s0) Q (F0 m q ls (.long x :: rest)) → W p l e R s m args below meth c H locs (zN M - n0) (zS M - s0) Q (F0 m pc ls rest))
    (k : zGo p l e R s m args below meth c Q b nL n0 s0 sp cy D pc' L' S' M') : zGo p l e R s m args below meth c Q b nL n0 s0 sp cy D pc L S M := by
  unfold zll at hz
  split at hz
  · rename_i h0
    simp only [Option.some.injEq, Prod.mk.injEq] at hz
    obtain ⟨rfl, rfl, rfl, rfl⟩ := hz
    intro H locs ls hW hS hL
    exact row H locs ls _ _ (hL.ld h0) (k H locs ls hW hS hL)
  · cases hz
theorem zal_go {q i : Nat} (hz : zal q i L S M = some (pc', L', S', M'))
    (row : ∀ (H : Heap) (locs : List Loc) (ls : Array Slot) (rest : List Value) (x : Nat), ls[i]? = some (.val (.ref x)) → W p l e R s m args below meth c H locs (zN M - n0) (zS M - s0) Q (F0 m q ls (.ref x :: rest)) → W p l e R s m args below meth c H locs (zN M - n0) (zS M - s0) Q (F0 m pc ls rest))
    (rowN : ∀ (H : Heap) (locs : List Loc) (ls : Array Slot) (rest : List Value), ls[i]? = some (.val .null) → W p l e R s m args below meth c H locs (zN M - n0) (zS M - s0) Q (F0 m q ls (.null :: rest)) → W p l e R s m args below meth c H locs (zN M - n0) (zS M - s0) Q (F0 m pc ls rest))
    (k : zGo p l e R s m args below meth c Q b nL n0 s0 sp cy D pc' L' S' M') : zGo p l e R s m args below meth c Q b nL n0 s0 sp cy D pc L S M := by
  unfold zal at hz
  split at hz
  · rename_i h0
    simp only [Option.some.injEq, Prod.mk.injEq] at hz
    obtain ⟨rfl, rfl, rfl, rfl⟩ := hz
    intro H locs ls hW hS hL
    exact row H locs ls _ _ (hL.ld h0) (k H locs ls hW hS hL)
  · rename_i h0
    simp only [Option.some.injEq, Prod.mk.injEq] at hz
    obtain ⟨rfl, rfl, rfl, rfl⟩ := hz
    intro H locs ls hW hS hL
    exact rowN H locs ls _ (hL.ld h0) (k H locs ls hW hS hL)
  · rename_i h0
    simp only [Option.some.injEq, Prod.mk.injEq] at hz
    obtain ⟨rfl, rfl, rfl, rfl⟩ := hz
    intro H locs ls hW hS hL
    exact row H locs ls _ _ (hL.ld h0) (k H locs ls hW hS hL)
  · cases hz
theorem zis_go {q i : Nat} (hz : zis q i L S M = some (pc', L', S', M'))
    (row : ∀ (H : Heap) (locs : List Loc) (ls : Array Slot) (rest : List Value) (x : Int32) (lv : List (Nat × Value)), lv_has ls nL lv → i < nL → (∀ ls', lv_has ls' nL ((i, Value.int x) :: lv.filter (fun q => !(q.1 == i) && !(q.1 + 1 == i && q.2.category == 2))) → W p l e R s m args below meth c H locs (zN M - n0) (zS M - s0) Q (F0 m q ls' rest)) → W p l e R s m args below meth c H locs (zN M - n0) (zS M - s0) Q (F0 m pc ls (.int x :: rest)))
    (k : zGo p l e R s m args below meth c Q b nL n0 s0 sp cy D pc' L' S' M') : zGo p l e R s m args below meth c Q b nL n0 s0 sp cy D pc L S M := by
  unfold zis at hz
  split at hz
  · split at hz
    · rename_i h0
      simp only [Option.some.injEq, Prod.mk.injEq] at hz
      obtain ⟨rfl, rfl, rfl, rfl⟩ := hz
      intro H locs ls hW hS hL
      exact row H locs ls _ _ _ hL.has (by rw [← hL.2.2.1]; exact h0) (fun ls' h' => k H locs ls' hW hS (zLR.st1 hL.2.2.1 h'))
    · cases hz
  · cases hz
theorem zls_go {q i : Nat} (hz : zls q i L S M = some (pc', L', S', M'))
    (row : ∀ (H : Heap) (locs : List Loc) (ls : Array Slot) (rest : List Value) (x : Int64) (lv : List (Nat × Value)), lv_has ls nL lv → i + 1 < nL → (∀ ls', lv_has ls' nL ((i, Value.long x) :: lv.filter (fun q => !(q.1 == i) && (!(q.1 == i + 1) && !(q.1 + 1 == i && q.2.category == 2)))) → W p l e R s m args below meth c H locs (zN M - n0) (zS M - s0) Q (F0 m q ls' rest)) → W p l e R s m args below meth c H locs (zN M - n0) (zS M - s0) Q (F0 m pc ls (.long x :: rest)))
    (k : zGo p l e R s m args below meth c Q b nL n0 s0 sp cy D pc' L' S' M') : zGo p l e R s m args below meth c Q b nL n0 s0 sp cy D pc L S M := by
  unfold zls at hz
  split at hz
  · split at hz
    · rename_i h0
      simp only [Option.some.injEq, Prod.mk.injEq] at hz
      obtain ⟨rfl, rfl, rfl, rfl⟩ := hz
      intro H locs ls hW hS hL
      exact row H locs ls _ _ _ hL.has (by rw [← hL.2.2.1]; exact h0) (fun ls' h' => k H locs ls' hW hS (zLR.st2 hL.2.2.1 h'))
    · cases hz
  · cases hz
theorem zas_go {q i : Nat} (hz : zas q i L S M = some (pc', L', S', M'))
    (row : ∀ (H : Heap) (locs : List Loc) (ls : Array Slot) (rest : List Value) (x : Nat) (lv : List (Nat × Value)), lv_has ls nL lv → i < nL → (∀ ls', lv_has ls' nL ((i, Value.ref x) :: lv.filter (fun q => !(q.1 == i) && !(q.1 + 1 == i && q.2.category == 2))) → W p l e R s m args below meth c H locs (zN M - n0) (zS M - s0) Q (F0 m q ls' rest)) → W p l e R s m args below meth c H locs (zN M - n0) (zS M - s0) Q (F0 m pc ls (.ref x :: rest)))
    (rowN : ∀ (H : Heap) (locs : List Loc) (ls : Array Slot) (rest : List Value) (lv : List (Nat × Value)), lv_has ls nL lv → i < nL → (∀ ls', lv_has ls' nL ((i, Value.null) :: lv.filter (fun q => !(q.1 == i) && !(q.1 + 1 == i && q.2.category == 2))) → W p l e R s m args below meth c H locs (zN M - n0) (zS M - s0) Q (F0 m q ls' rest)) → W p l e R s m args below meth c H locs (zN M - n0) (zS M - s0) Q (F0 m pc ls (.null :: rest)))
    (k : zGo p l e R s m args below meth c Q b nL n0 s0 sp cy D pc' L' S' M') : zGo p l e R s m args below meth c Q b nL n0 s0 sp cy D pc L S M := by
  unfold zas at hz
  split at hz
  · split at hz
    · rename_i h0
      simp only [Option.some.injEq, Prod.mk.injEq] at hz
      obtain ⟨rfl, rfl, rfl, rfl⟩ := hz
      intro H locs ls hW hS hL
      exact row H locs ls _ _ _ hL.has (by rw [← hL.2.2.1]; exact h0) (fun ls' h' => k H locs ls' hW hS (zLR.st1 (v := .ref _) hL.2.2.1 h'))
    · cases hz
  · split at hz
    · rename_i h0
      simp only [Option.some.injEq, Prod.mk.injEq] at hz
      obtain ⟨rfl, rfl, rfl, rfl⟩ := hz
      intro H locs ls hW hS hL
      exact rowN H locs ls _ _ hL.has (by rw [← hL.2.2.1]; exact h0) (fun ls' h' => k H locs ls' hW hS (zLR.st1 (v := .null) hL.2.2.1 h'))
    · cases hz
  · cases hz
end ZS
