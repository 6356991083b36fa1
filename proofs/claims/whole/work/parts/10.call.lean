/-! ===== the clean machine is sound: calls, methods ===== -/
theorem zset_mono {M M' : zMem} {c a k : Nat} {v : Value} (h : zset M c a k v = some M') : zN M ≤ zN M' ∧ zS M ≤ zS M' := by
  unfold zset at h
  split at h
  · cases h; exact ⟨Nat.le_refl _, Nat.le_refl _⟩
  · cases h; exact ⟨Nat.le_refl _, Nat.le_refl _⟩
  · cases h; exact ⟨Nat.le_refl _, Nat.le_refl _⟩
  · cases h; exact ⟨Nat.le_refl _, Nat.le_refl _⟩
  · split at h
    · cases h; exact ⟨Nat.le_refl _, Nat.le_refl _⟩
    · cases h
  · cases h
theorem znew_mono (M : zMem) (kd len sl : Nat) : zN M ≤ zN (znew M kd len sl) ∧ zS M ≤ zS (znew M kd len sl) := ⟨Nat.le_succ _, Nat.le_add_right _ _⟩
theorem zmono_of {pc' : Nat} {L' : List (Option Value)} {S' : List Value} {M M' M1 : zMem} {a : Nat} {L1 : List (Option Value)} {S1 : List Value} (h : (some (a, L1, S1, M1) : Option zSt) = some (pc', L', S', M')) (h1 : zN M ≤ zN M1 ∧ zS M ≤ zS M1) : zN M ≤ zN M' ∧ zS M ≤ zS M' := by
  simp only [Option.some.injEq, Prod.mk.injEq] at h
  obtain ⟨-, -, -, rfl⟩ := h
  exact h1
theorem zmono_map {pc' : Nat} {L' : List (Option Value)} {S' : List Value} {M M' : zMem} {o : Option Nat} {L1 : List (Option Value)} {S1 : List Value} (h : o.map (fun t => (t, L1, S1, M)) = some (pc', L', S', M')) : zN M ≤ zN M' ∧ zS M ≤ zS M' := by
  obtain ⟨t, -, he⟩ := Option.map_eq_some_iff.mp h
  simp only [Prod.mk.injEq] at he
  obtain ⟨-, -, -, rfl⟩ := he
  exact ⟨Nat.le_refl _, Nat.le_refl _⟩
theorem zmono_bind {α : Type} {pc' : Nat} {L' : List (Option Value)} {S' : List Value} {M M' : zMem} {o : Option α} {f : α → Option Nat} {L1 : List (Option Value)} {S1 : List Value} (h : o.bind (fun x => (f x).map (fun t => (t, L1, S1, M))) = some (pc', L', S', M')) : zN M ≤ zN M' ∧ zS M ≤ zS M' := by
  obtain ⟨x, -, h⟩ := Option.bind_eq_some_iff.mp h
  exact zmono_map h
theorem zmono_set {pc' : Nat} {L' : List (Option Value)} {S' : List Value} {M M' : zMem} {c a k q : Nat} {v : Value} {L1 : List (Option Value)} {S1 : List Value} (h : (zset M c a k v).map (fun M' => (q, L1, S1, M')) = some (pc', L', S', M')) : zN M ≤ zN M' ∧ zS M ≤ zS M' := by
  obtain ⟨t, h1, he⟩ := Option.map_eq_some_iff.mp h
  simp only [Prod.mk.injEq] at he
  obtain ⟨-, -, -, rfl⟩ := he
  exact zset_mono h1
set_option maxHeartbeats 4000000 in
theorem zst_mono {own pc pc' : Nat} {ini : Bool} {sc : zSc} {i : Instr} {L L' : List (Option Value)} {S S' : List Value} {M M' : zMem} (hz : zst own ini sc pc i L S M = some (pc', L', S', M')) : zN M ≤ zN M' ∧ zS M ≤ zS M' := by
  cases i <;> first
    | exact Option.noConfusion (show (none : Option zSt) = some _ from hz)
    | exact zmono_of hz ⟨Nat.le_refl _, Nat.le_refl _⟩
    | exact zmono_map hz
    | (simp only [zst, zi1, zi2, zid, zl2, zldn, zlsh, zil, zll, zal, zis, zls, zas] at hz
       repeat' (split at hz)
       all_goals first
         | (cases hz; done)
         | exact zmono_of hz ⟨Nat.le_refl _, Nat.le_refl _⟩
         | exact zmono_map hz
         | exact zmono_bind hz
         | exact zmono_set hz
         | exact zmono_of hz (znew_mono _ _ _ _))
theorem zsp_mono {id : Nat} {S S' : List Value} {M M' : zMem} (hz : zsp id S M = some (S', M')) : zN M = zN M' ∧ zS M = zS M' := by
  unfold zsp at hz
  repeat' (split at hz)
  all_goals first
    | (cases hz; done)
    | (simp only [Option.some.injEq, Prod.mk.injEq] at hz
       obtain ⟨-, rfl⟩ := hz
       exact ⟨rfl, rfl⟩)
section ZC
variable {p : Program} {l : Launch} {e : Env} {R : Room} {s : State} {m : MethodId} {args : Array Value} {below : List Frame} {meth : Method} {c : Code} {Q : State → Prop}
variable {cc : ByteArray} {b nL own n0 s0 pc pc' : Nat} {sp : UInt32 → Nat} {cy : Nat → ClassId} {D : va_G} {sc : zSc} {X : State → Heap → Prop} {ini : Bool} {L L' : List (Option Value)} {S S' : List Value} {M M' Mf : zMem} {hp : zHp}
def zQc (b : Nat) (sp : UInt32 → Nat) (cy : Nat → ClassId) (D : va_G) (v : Option Value) (Mf : zMem) : Array Value → State → Outcome → State → Prop := fun _ st o t => o = .returned (v.map (zt b sp)) ∧ zWd b sp cy D Mf t.heap ∧ va_F (fun q => b ≤ q) st t
abbrev zTys (cy : Nat → ClassId) : List (ClassId × FieldType) := [(cy 13, .int), (cy 14, .boolean), (cy 15, .object RX4), (cy 16, .object RX8), (cy 17, .long)]
def zPc (b : Nat) (sp : UInt32 → Nat) (cy : Nat → ClassId) (D : va_G) (sc : zSc) (X : State → Heap → Prop) (M : zMem) (As : List Value) : Array Value → State → Prop := va_Pc (As.map (zt b sp)) (fun U => zWd b sp cy D M U.heap ∧ va_K D vwCl (zTys cy) U ∧ zOld b sp sc X U U.heap)
theorem zPc_blind (hX : zXst b X) {As : List Value} : FrameBlind (zPc b sp cy D sc X M As) := fun a U g mk h =>
  ⟨h.1, h.2.1, va_K.moved (u := U) (U := U.calling g mk a) (Vm.Alike.refl U.vm) h.2.2.1, zOld.move (U := U.calling g mk a) hX h.2.2.2 (State.WarmedH.refl U) (fun _ _ => rfl) h.2.2.2.1⟩
theorem zPc_of (hX : zXst b X) (hC : zCx p s m args meth c cc nL own ini b sp cy D sc X) {H : Heap} {locs : List Loc} (hW : zWd b sp cy D M H) (hS : va_S (fun q => b ≤ q) s.heap H locs) {As : List Value} {U : State} (hU : U.heap = H) (hWm : s.WarmedH U.vm) : zPc b sp cy D sc X M As (As.map (zt b sp)).toArray U := by
  obtain ⟨hx, hb, hml, hown, hts, hK, hold, hini, hlocks⟩ := id hC
  refine ⟨rfl, by rw [hU]; exact hW, va_K.moved hWm.alike hK, zOld.move hX hold hWm (fun q hq => ?_) (by rw [hU, hW.1]; omega)⟩
  rw [hU]
  exact hS.2.1 q (Nat.lt_of_lt_of_le hq hold.1) (Nat.not_le.mpr hq)
theorem z_call {v : Option Value} {H : Heap} {locs : List Loc} {cells slots mc ms : Nat} {ls : Array Slot} {st0 rest : List Value} {a : Array Value} (hr : va_Run p l e R s m args below meth c H locs cells slots mc ms (F0 m pc ls st0) rest (zQc b sp cy D v Mf a) (fun q => b ≤ q)) (hS : va_S (fun q => b ≤ q) s.heap H locs)
    (kk : ∀ (H1 : Heap) (locs1 : List Loc), zWd b sp cy D Mf H1 → va_S (fun q => b ≤ q) s.heap H1 locs1 → W p l e R s m args below meth c H1 locs1 (cells + mc) (slots + ms) Q (F0 m (pc + 3) ls ((v.map (zt b sp)).toList ++ rest))) : W p l e R s m args below meth c H locs cells slots Q (F0 m pc ls st0) := by
  intro T hT X
  obtain ⟨v', st₀, t, T', L, h0, X', hL, e1, e2, ⟨hv, hw, hz, hk⟩, st⟩ := hr T hT X
  have hv := Outcome.returned.inj hv
  subst hv
  rw [h0] at hz hk
  obtain ⟨t2, a1, b1⟩ := kk T'.heap (locs ++ L) (by rw [e1]; exact hw) ⟨Nat.le_trans hS.1 (by rw [e1]; exact hz), fun q h1 h2 => by rw [e1, hk q (Nat.lt_of_lt_of_le h1 hS.1) h2]; exact hS.2.1 q h1 h2, fun q hq => (List.mem_append.mp hq).elim (hS.2.2 q) (hL q)⟩ T' rfl X'
  exact ⟨t2, st t2 a1, b1⟩
/-- what a method's end owes -/
def zEnd (p : Program) (l : Launch) (e : Env) (R : Room) (s : State) (m : MethodId) (args : Array Value) (below : List Frame) (meth : Method) (c : Code) (Q : State → Prop) (cc : ByteArray) (b n0 s0 : Nat) (sp : UInt32 → Nat) (cy : Nat → ClassId) (D : va_G) (ret : Option FieldType) (v : Option Value) (Mf : zMem) : Prop :=
  ∀ (H : Heap) (locs : List Loc) (ls : Array Slot) (pc : Nat) (i : Instr) (S : List Value), decode cc pc = .ok (i, 1) → zret ret i S = some v → zWd b sp cy D Mf H → va_S (fun q => b ≤ q) s.heap H locs → W p l e R s m args below meth c H locs (zN Mf - n0) (zS Mf - s0) Q (F0 m pc ls (S.map (zt b sp)))
theorem zend_of {v : Option Value} {ret : Option FieldType} (hC : zCx p s m args meth c cc nL own ini b sp cy D sc X) (hr : meth.sig.returnType = ret) :
    zEnd p l e R s m args below meth c (MQ below (zQc b sp cy D v Mf) args s (zN Mf - n0) (zS Mf - s0) (fun q => b ≤ q)) cc b n0 s0 sp cy D ret v Mf := by
  obtain ⟨hx, hb, hml, hown, hts, hK, hold, hini, hlocks⟩ := id hC
  intro H locs ls pc i S hd hz hW hS
  have hq : ∀ (o : Option Value) (t : State), t.heap = H → o = v.map (zt b sp) → zQc b sp cy D v Mf args s (.returned o) t := fun o t ht ho => ⟨by rw [ho], by rw [ht]; exact hW, by rw [ht]; exact hS.1, fun q h1 h2 => by rw [ht]; exact hS.2.1 q h1 h2⟩
  unfold zret at hz
  split at hz
  · cases hz
    exact W.iret hx hb hr (fun t ht _ => hq _ t ht rfl) hS.2.2 hd hlocks
  · split at hz
    · rename_i h1
      cases hz
      exact W.zret hx hb hr (by rcases h1 with rfl | rfl <;> rfl) (fun t ht _ => hq _ t ht rfl) hS.2.2 hd hlocks
    · cases hz
  · cases hz
    exact W.aret hx hb hr (Or.inl ⟨_, rfl⟩) (Or.inr ⟨_, rfl⟩) (fun t ht _ => hq _ t ht rfl) hS.2.2 hd hlocks
  · cases hz
    exact W.aret hx hb hr (Or.inl ⟨_, rfl⟩) (Or.inl rfl) (fun t ht _ => hq _ t ht rfl) hS.2.2 hd hlocks
  · cases hz
    exact W.vret hx hb hr (fun t ht _ => hq _ t ht rfl) hS.2.2 hd hlocks
  · cases hz
/-- soundness at a depth of fuel -/
def zSnd (l : Launch) (b : Nat) (sp : UInt32 → Nat) (cy : Nat → ClassId) (D : va_G) (sc : zSc) (hp : zHp) (X : State → Heap → Prop) (N : Nat) : Prop :=
  ∀ (d : Nat) (cd : zCd) (pc : Nat) (L : List (Option Value)) (S : List Value) (M : zMem) (v : Option Value) (Mf : zMem), zex N d sc hp cd pc L S M = some (v, Mf) → (zN M ≤ zN Mf ∧ zS M ≤ zS Mf) ∧
    ∀ (p : Program) (e : Env) (R : Room) (s : State) (m : MethodId) (args : Array Value) (below : List Frame) (meth : Method) (c : Code) (Q : State → Prop) (cc : ByteArray) (nL n0 s0 : Nat),
      zCx p s m args meth c cc nL cd.1 cd.2.1 b sp cy D sc X → (∀ q ∈ cd.2.2.2, decode cc q.1 = .ok q.2) → n0 ≤ zN M ∧ s0 ≤ zS M → d ≤ R.frames ∧ 64 * d ≤ R.locals ∧ zN Mf - n0 ≤ R.cells ∧ zS Mf - s0 ≤ R.slots →
      zEnd p l e R s m args below meth c Q cc b n0 s0 sp cy D cd.2.2.1 v Mf → zGo p l e R s m args below meth c Q b nL n0 s0 sp cy D pc L S M
theorem zent0_sl (b : Nat) (sp : UInt32 → Nat) : ∀ As : List Value, lg_sl (As.map (zt b sp)) = (zent0 As).map (fun o => match o with | some v => Slot.val (zt b sp v) | none => Slot.second)
  | [] => rfl
  | v :: r => by
    have ih := zent0_sl b sp r
    unfold lg_sl zent0 at ih ⊢
    simp only [List.map_cons, List.flatMap_cons, zt_cat, List.map_append]
    rw [ih]
    congr 1
    split <;> rfl
theorem zent_LR {As : List Value} {n : Nat} (h : (zent0 As).length ≤ n) : zLR b sp ((lg_sl (As.map (zt b sp)) ++ List.replicate (n - (lg_sl (As.map (zt b sp))).length) Slot.unset).toArray) n (zent As n) := by
  have hl : (lg_sl (As.map (zt b sp))).length = (zent0 As).length := by rw [zent0_sl, List.length_map]
  have h1 := lv_entry (As.map (zt b sp)) (n := n) (by rw [hl]; exact h)
  refine ⟨h1.1, h1.2.1, by simp [zent]; omega, fun i v hv => ?_⟩
  have hv' : (zent0 As)[i]? = some (some v) := by
    unfold zent at hv
    by_cases q : i < (zent0 As).length
    · rwa [List.getElem?_append_left q] at hv
    · rw [List.getElem?_append_right (by omega)] at hv
      have := List.mem_of_getElem? hv
      simp at this
  have hi : i < (zent0 As).length := (List.getElem?_eq_some_iff.mp hv').1
  rw [List.getElem?_toArray, List.getElem?_append_left (by rw [hl]; exact hi), zent0_sl, List.getElem?_map, hv']
  rfl
theorem zMet_of (hX : zXst b X) {N : Nat} (hN : zSnd l b sp cy D sc hp X N) {e' : zE_} (hm : zPm e') {d : Nat} {As : List Value} {v : Option Value} (hz : zex N d sc hp (zcd e') 0 (zent As e'.2.2.1) [] M = some (v, Mf)) (hlen : (zent0 As).length ≤ e'.2.2.1) :
    Met l e'.1 (Cond.code e'.1 e'.2.1 e'.2.2.1 e'.2.2.2.1 :: zTs) ({ frames := d, cells := zN Mf - zN M, slots := zS Mf - zS M, locals := 64 * d } : Room) (zPc b sp cy D sc X M As) (zQc b sp cy D v Mf) (zN Mf - zN M) (zS Mf - zS M) (fun q => b ≤ q) := by
  obtain ⟨h1, h2, h3, h4, h5, h6, h7, h8, h9, h10, h11⟩ := hm
  refine Met.ofW (cc := e'.2.1) (maxL := e'.2.2.1) (ret := e'.2.2.2.1) h2 rfl ?_
  intro p e s m args below meth c s₁ B hml hv
  obtain ⟨rfl, hWd, hK, hold⟩ := hv
  have hts := atoms_spec (ws := Cond.code e'.1 e'.2.1 e'.2.2.1 e'.2.2.2.1 :: zTs) B.pre
  have hown : s.vm.findClass (zRN e'.2.2.2.2.1) = some m.cls := by rw [← h3]; exact findClass_of_methodNamed B.named
  have hin : meth.name = e'.1.name := (name_of_methodNamed B.named B.method).1
  have hC : zCx p s m (As.map (zt b sp)).toArray meth c e'.2.1 e'.2.2.1 (zcd e').1 (zcd e').2.1 b sp cy D sc X := ⟨B.exec, B.bytes, hml, hown, fun w hw => hts w (List.mem_cons_of_mem _ hw), hK, hold, fun hi => by rw [hin]; exact (h10 (of_decide_eq_true hi)).1, B.notSynchronized⟩
  rw [lg_entry_eq]
  have h := (hN d (zcd e') 0 (zent As e'.2.2.1) [] M v Mf hz).2 p e (headSpec (Cond.code e'.1 e'.2.1 e'.2.2.1 e'.2.2.2.1 :: zTs) ({ frames := d, cells := zN Mf - zN M, slots := zS Mf - zS M, locals := 64 * d } : Room)).room s m (As.map (zt b sp)).toArray below meth c
    (MQ below (zQc b sp cy D v Mf) (As.map (zt b sp)).toArray s (zN Mf - zN M) (zS Mf - zS M) (fun q => b ≤ q)) e'.2.1 e'.2.2.1 (zN M) (zS M) hC h5 ⟨Nat.le_refl _, Nat.le_refl _⟩ ⟨Nat.le_refl _, Nat.le_refl _, Nat.le_refl _, Nat.le_refl _⟩ (zend_of hC B.returns) s.heap [] _ hWd va_S.rf (zent_LR hlen)
  rw [Nat.sub_self, Nat.sub_self] at h
  exact h
end ZC
