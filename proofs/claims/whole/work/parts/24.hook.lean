/-! ===== the law's own method person, which catches what the class's person throws ===== -/
def zxAt : List Cond := vx_at0 RX11 186 "java/util/NoSuchElementException" ["java/lang/RuntimeException", "java/lang/Exception"]
def zxBad : List Cond := zxAt.filter (fun w => !goodWord w)
theorem zxAt_in : ∀ w ∈ zxAt, w ∈ lw_tbl := by decide +kernel
theorem zxBad_tab : zxBad.all (fun w => w.onTables) = true := by decide +kernel
def zXX (b q t : Nat) : State → Heap → Prop := fun U H => zRX b q t U H ∧ vk_R RX4 40 "kfnvto" q U ∧ vk_R RX5 95 "kfnvto" q U ∧ vx_Zq Bundle.tN "UNASSIGNED_STACK" Bundle.steD (fun a => b ≤ a) U H ∧ vx_Zq Bundle.tN "SUPPRESSED_SENTINEL" Bundle.listD (fun a => b ≤ a) U H ∧ (∀ w ∈ zxBad, va_Nw w U)
theorem zXX_st {b q t : Nat} : zXst b (zXX b q t) := by
  intro s U H H1 h hW hq
  obtain ⟨h1, h2, h3, h4, h5, h6⟩ := h
  have hq' : ∀ a : Nat, a < H.size → ¬ b ≤ a → H1[a]? = H[a]? := fun a _ ha => hq a (Nat.lt_of_not_le ha)
  refine ⟨h1.move hW hq, vk_R.warm hW h2, vk_R.warm hW h3, vx_Zq.moved hW.alike (h4.kept hq'), vx_Zq.moved hW.alike (h5.kept hq'), fun w hw => ?_⟩
  have hk : w ∈ Bundle.ownAtoms0 RX11 186 "java/util/NoSuchElementException" ["java/lang/RuntimeException", "java/lang/Exception"] := (List.mem_filter.mp (List.mem_filter.mp hw).1).1
  exact va_tabs (List.all_eq_true.mp zxBad_tab w hw) (rfl : (s.setVm U.vm).vm = U.vm) (Cond.before_shiftedFace (State.Shifted.of_warmed hW) w (Bundle.ownAtoms0_keepsFace w hk) (h6 w hw))
theorem zsp_1006 {S S' : List Value} {M M' : zMem} (h : zsp 1006 S M = some (S', M')) : ∃ r, S = .float 2 :: r ∧ zcat r ≤ 8 ∧ S' = .int 6 :: r ∧ M' = M := by
  cases S with
  | nil => cases h
  | cons v r =>
    cases v <;> first
      | (cases h; done)
      | (rename_i f
         change (if f = 2 ∧ zcat r ≤ 8 then some (Value.int 6 :: r, M) else none) = some (S', M') at h
         split at h
         · rename_i hc
           cases h
           exact ⟨r, by rw [hc.1], hc.2, rfl, rfl⟩
         · cases h)
theorem zsp_1007 {S S' : List Value} {M M' : zMem} (h : zsp 1007 S M = some (S', M')) : ∃ x r, S = .int x :: .float 2 :: r ∧ zcat r ≤ 8 ∧ ¬ x < 0 ∧ S' = .int (zidx x) :: r ∧ M' = M := by
  cases S with
  | nil => cases h
  | cons v r =>
    cases r with
    | nil => cases v <;> cases h
    | cons u r =>
      cases v <;> first
        | (cases h; done)
        | (rename_i x
           cases u <;> first
             | (cases h; done)
             | (rename_i f
                change (if f = 2 ∧ zcat r ≤ 8 ∧ ¬ x < 0 then some (Value.int (zidx x) :: r, M) else none) = some (S', M') at h
                split at h
                · rename_i hc
                  cases h
                  exact ⟨x, r, by rw [hc.1], hc.2.1, hc.2.2, rfl, rfl⟩
                · cases h))
theorem zstr_ok {l : Launch} {b t : Nat} {sp : UInt32 → Nat} {cy : Nat → ClassId} {D : va_G} {sc : zSc} : zStr l b sp cy D sc (zXX b (sp 2) t) := by
  constructor
  · intro p e R s m args below meth c Q cc nL own ini n0 s0 pc idx L S M hC hd ho k
    obtain ⟨hx, hb, hml, hown, hts, hK, hold, hini, hlocks⟩ := id hC
    have hXX : zXX b (sp 2) t s s.heap := hold.2.2.2.2.2.2.2.2.2
    intro H locs ls hW hS hL
    rcases ho with ⟨rfl, rfl⟩ | ⟨rfl, rfl⟩
    · exact va_ldcS hx hb hown hXX.2.1 hd (k H locs ls hW hS hL)
    · exact va_ldcS hx hb hown hXX.2.2.1 hd (k H locs ls hW hS hL)
  · intro p e R s m args below meth c Q cc nL own ini n0 s0 pc idx id1 L S S' M M' hC hd hx1 hid hz hR k
    obtain ⟨hx, hb, hml, hown, hts, hK, hold, hini, hlocks⟩ := id hC
    have hXX : zXX b (sp 2) t s s.heap := hold.2.2.2.2.2.2.2.2.2
    intro H locs ls hW hS hL
    have hH : ∀ a, a < b → H[a]? = s.heap[a]? := fun a ha => hS.2.1 a (Nat.lt_of_lt_of_le ha hold.1) (Nat.not_le.mpr ha)
    rcases hid with rfl | rfl
    · obtain ⟨r, rfl, hr, rfl, rfl⟩ := zsp_1006 hz
      exact zs_runV (q := sp 2) (As := []) (rest := r.map (zt b sp)) (d := 2) hx hb hml hown hts hXX.1 hH (zs_length (Nat.le_refl _)) rfl (zTs_of (zX_ok hx1) rfl) zw_length_i zw_length_s zw_length_c rfl ⟨by omega, by omega⟩ ⟨hR.2.2.1, hR.2.2.2⟩ hL.1 rfl (by rw [zcat_map]; exact hr) hd (k H locs ls hW hS hL)
    · obtain ⟨x, r, rfl, hr, hx0, rfl, rfl⟩ := zsp_1007 hz
      have h1 := k H locs ls hW hS hL
      rw [← zix_eq hx0] at h1
      exact zs_runV (q := sp 2) (As := [.int x]) (rest := r.map (zt b sp)) (d := 6) hx hb hml hown hts hXX.1 hH (zs_ix1 x hx0 (Nat.le_refl _)) rfl (zTs_of (zX_ok hx1) rfl) zw_indexOf1_i zw_indexOf1_s zw_indexOf1_c rfl ⟨by omega, by omega⟩ ⟨hR.2.2.1, hR.2.2.2⟩ hL.1 rfl (by rw [zcat_map]; exact hr) hd h1
section ZXT
variable {p : Program} {l : Launch} {e : Env} {R : Room} {s : State} {m : MethodId} {args : Array Value} {below : List Frame} {meth : Method} {c : Code} {H : Heap} {locs : List Loc} {cells slots : Nat} {Q : State → Prop}
variable {mc ms : Nat} {free : Addr → Prop} {A0 A1 : Nat → Prop} {H0 : Heap} {a : Array Value} {ls : Array Slot} {st0 rest : List Value}
variable {Qc : Array Value → State → Outcome → State → Prop} {XC : String → State → State → Prop}
/-- 'throw new E()': new; dup; invokespecial; athrow -/
theorem zx_throw0 {cc : ByteArray} {pc : Nat} (hexec : p.tables.exec = Jvm.exec) (hb : c.code = cc) (hl : l.stackTraces = false) {own cls : String} {names : List String} {ik ic mc ms : Nat} {A : Nat → Prop}
    (hown : s.vm.findClass own = some m.cls) (hcls : Bundle.fit cls = true) (hnames : ∀ n ∈ names, Bundle.fit n = true)
    (hk : (Cond.classLink own ik cls).before args s = true) (hini : (Cond.initialized cls).before args s = true) (hat : ∀ w ∈ vx_at0 own ic cls names, w.before args s = true)
    (hgood : ∀ w ∈ Cond.classLink own ik cls :: Cond.initialized cls :: vx_at0 own ic cls names, vx_ot w = true)
    (hU : vx_Zq Bundle.tN "UNASSIGNED_STACK" Bundle.steD A s s.heap) (hN : vx_Zq Bundle.tN "SUPPRESSED_SENTINEL" Bundle.listD A s s.heap) (hS : va_S A s.heap H locs) (hsize : ls.size = c.maxLocals)
    (d0 : decode cc pc = .ok (.new ik, 3)) (d3 : decode cc (pc + 3) = .ok (.dup, 1)) (d4 : decode cc (pc + 4) = .ok (.invokespecial ic, 3)) (d7 : decode cc (pc + 7) = .ok (.athrow, 1))
    (hout : ∀ x ∈ c.exceptionTable.toList, covers x (pc + 7) = false)
    (hRframes : names.length + 3 < R.frames) (hRlocals : (rest.map fun v => v.category).sum + (13 * (names.length + 1) + 42) ≤ R.locals) (hRcells : cells + 1 ≤ R.cells) (hRslots : slots + 6 ≤ R.slots) (hlocks : meth.locks = false)
    (hx : ∀ t : State, s.vm.Alike t.vm → t.heap.size = H.size + 1 → (∀ q : Nat, q < H.size → t.heap[q]? = H[q]?) → XC cls s t)
    (hf : ∀ z ∈ locs, free z.base) (hc : cells + 1 ≤ mc) (hs : slots + 6 ≤ ms) :
    W p l e R s m args below meth c H locs cells slots (vx_MQ below Qc XC args s mc ms free) (F0 m pc ls rest) := by
  intro T hT X
  have htr : e.platform.stackTraces = false := (show e.platform.stackTraces = l.stackTraces by rw [X.admits.platform]).trans hl
  have Y := vx_rebase X (R' := { frames := R.frames, locals := R.locals, cells := 1, slots := 6 }) (Nat.le_refl _) (Nat.le_refl _) hRcells hRslots
  obtain ⟨s', hA⟩ : ∃ z, z = (T.setVm s.vm).setFrames (.invoking m args :: below) := ⟨_, rfl⟩
  rw [← hA] at Y
  have hvm : s'.vm = s.vm := by rw [hA]; rfl
  have hhp : s'.heap = H := by rw [hA]; exact hT
  have hW0 : s.WarmedH s'.vm := by rw [hvm]; exact State.WarmedH.refl s
  have hat' : ∀ w ∈ vx_at0 own ic cls names, w.before args s' = true := fun w hw => vx_ot_at hW0 hvm.symm (hgood w (List.mem_cons_of_mem _ (List.mem_cons_of_mem _ hw))) (hat w hw)
  have hk' : (Cond.classLink own ik cls).before args s' = true := vx_ot_at hW0 hvm.symm (hgood _ List.mem_cons_self) hk
  have hini' : (Cond.initialized cls).before args s' = true := vx_ot_at hW0 hvm.symm (hgood _ (List.mem_cons_of_mem _ List.mem_cons_self)) hini
  have hU' : vx_Zq Bundle.tN "UNASSIGNED_STACK" Bundle.steD A s' s'.heap := by rw [hhp]; exact vx_Zq.moved hW0.alike (hU.kept hS.2.1)
  have hN' : vx_Zq Bundle.tN "SUPPRESSED_SENTINEL" Bundle.listD A s' s'.heap := by rw [hhp]; exact vx_Zq.moved hW0.alike (hN.kept hS.2.1)
  have h : ∀ w ∈ Bundle.ownAtoms0 own ic cls names, w.before args s' = true := vx_own hat' (vx_isRefq hU'.1) (vx_isRefq hN'.1) hU'.2.word hN'.2.word
  have hown' : s'.vm.findClass own = some m.cls := by rw [hvm]; exact hown
  have hins : (Cond.instantiable cls 6).before args s' = true := h _ (by simp [Bundle.ownAtoms0])
  obtain ⟨vm₁, cX, kX, hfX, hkX, -, -, X₁, st1⟩ := Y.newCold hexec (own := own) (C := cls) (index := ik) (n := 6) hown' hk' hins hini'
    (g := F0 m pc ls rest) rfl (by rw [hb]; exact d0) (Nat.le_refl _) (Nat.le_refl _)
  generalize hT1 : (T.setVm vm₁).pushCell { cls := cX, slots := kX.instanceTypes.map defaultValue, vm := .none } = T1 at X₁ st1
  have hcat : (Value.ref T.heap.size).category = 1 := rfl
  have hcellA : T1.heap[T.heap.size]? = some (freshCell cX kX) := by rw [← hT1]; exact State.heap_pushCell_size _ _
  have d3' : decode c.code (pc + 3) = .ok (.dup, 1) := by rw [hb]; exact d3
  obtain ⟨U, hsteps, hrun, hend, hW, hsame, ce, hce, hO⟩ := X₁.ctorThrow0 hexec htr (own := own) (cls := cls) (names := names) (ic := ic) hown' hcls hnames h (fun x hx => nomatch hx) hfX hkX hcellA (by rw [hhp, hT]; exact Nat.le_refl _)
    (g := { method := m, pc := pc + 4, locals := ls, stack := .ref T.heap.size :: .ref T.heap.size :: rest, locked := none }) rfl hsize rfl rfl (rest := rest) rfl
    (by rw [hb]; exact d4) (by rw [hb]; exact d7) hout hRframes (by simp only [List.map_cons, List.sum_cons, hcat]; omega) hlocks
  obtain ⟨f1, f2⟩ := vx_frame hsame
  rw [hhp] at f1 f2
  have hsz1 : U.heap.size = H.size + 1 := by
    have u1 : U.heap.size ≤ s'.heap.size + (0 + 1) := hsame.2.2.1
    have u2 : T.heap.size < U.heap.size := (Array.getElem?_eq_some_iff.mp hce).1
    rw [hhp] at u1
    rw [hT] at u2
    omega
  have hWs : s.WarmedH U.vm := State.WarmedH.trans hW0 hW
  have hcl : s.vm.findClass cls = some ce.cls := by
    have h9 := hO.cls
    rw [hvm] at h9
    exact h9
  have hall : s.sameButNew ({ U with vm := s.vm } : State) locs mc ms := by
    subst hA
    obtain ⟨e1, e2⟩ := hsame
    rw [State.setFrames_setFrames] at e1
    have h2 : (T.setVm s.vm).sameButNew ({ U with vm := s.vm } : State) [] (0 + 1) (0 + 6) := ⟨e1, e2⟩
    have h3 := X.same.trans h2
    rw [List.append_nil] at h3
    exact h3.mono hc hs
  refine ⟨U, ?_, .threw T.heap.size, hrun, hend, Or.inr ⟨T.heap.size, rfl, cls, ce, locs, hx U hWs.alike hsz1 (fun q hq => f2 q hq (fun z hz => nomatch hz)), hce, hO.vm, hcl, hWs, hall, hf⟩⟩
  refine st1 _ ?_
  show Steps p.tables e below (T1.setTop { method := m, pc := pc + 3, locals := ls, stack := .ref T.heap.size :: rest, locked := none }) _
  jvm_step X₁.here [X₁.here.top, hexec, d3', Value.category]
  exact hsteps
end ZXT
