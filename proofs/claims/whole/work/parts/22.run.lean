/-! ===== the law's body, from its entry, out of its loop's function ===== -/
def lw_Q (_ : Array Value) (s : State) (o : Outcome) (t : State) : Prop := o = .returned (some (.int 1)) ∧ Framed s o t [] 601024 7293034
def lw_Z (below : List Frame) (a : Array Value) (s : State) : State → Prop := fun t => ∃ o, t.status = .running ∧ Ended t below o ∧ lw_Q a s o t
/-- the law's own end, with 1 on the stack, nothing written that was there before, its room as the claim has it -/
theorem lw_ret {p : Program} {l : Launch} {e : Env} {s : State} {m : MethodId} {below : List Frame} {meth : Method} {c : Code} {b : Nat} (hx : p.tables.exec = Jvm.exec) (hb : c.code = code) (hr : meth.sig.returnType = ret) (hlocks : meth.locks = false) {pc : Nat} {H : Heap} {ls : Array Slot} (hdg : decode code pc = .ok (.ireturn, 1)) : W p l e room_1 s m #[Value.ref b] below meth c H [] 601024 7293034 (lw_Z below #[Value.ref b] s) (F0 m pc ls [.int 1]) := by
  intro T hT X
  obtain ⟨fs, hret, hrun, hended, hW, hframe⟩ := X.leave (v := some (.int 1)) (hlocks := hlocks) (fun h => by rw [hr] at h; cases h)
  have hmeth' : T.vm.method? m = some meth := X.method'
  refine ⟨T.setFrames fs, ?_, .returned (some (.int 1)), hrun, hended, rfl, ⟨_, rfl⟩, hW, hframe⟩
  jvm_step X.here [X.here.top, hx, hb, hdg, hmeth', hr, ret, narrow_b1]
  (try refine ⟨rfl, ?_⟩); (try refine ⟨rfl, ?_⟩)
  first | (intro acts; rw [hret _ acts rfl rfl rfl]) | rw [hret _ _ rfl rfl rfl]
  exact Steps.refl _
theorem zX_n : zMemX.1.1 = 526 := by decide +kernel
theorem zM_n : zMemM.1.1 = 553 := by
  have h : zMemM.1.1 + 1 = 554 := congrArg Prod.fst zA_1
  omega
theorem zM_s : zMemM.1.2 = 24437 := by
  have h : zMemM.1.2 + 1 = 24438 := congrArg Prod.snd zA_1
  omega
theorem zinvX (sc : zSc) (hp : zHp) : zinv 50 (fun c L M => zex 20000 50 sc hp c 0 L [] M) hp 13 2 15 [.ref 0, .ref 0] (znew zM00 11 0 15) = some ([.ref 0], zMemX) := by
  have hc : zcalle 13 15 2 = some zM_X11_init := rfl
  unfold zinv
  rw [hc]
  dsimp only
  rw [if_pos (show zokc zM_X11_init 2 [.ref 0, .ref 0] (znew zM00 11 0 15) = true from rfl)]
  have h := zX_run sc hp
  have e : (List.take (zna zM_X11_init 2) [Value.ref 0, .ref 0]).reverse = [.ref 0] := rfl
  rw [e, h]
  rfl
theorem zinvM (sc : zSc) (hp : zHp) : zinv 50 (fun c L M => zex 20000 50 sc hp c 0 L [] M) hp 13 2 18 [.ref 526, .ref 526] (znew zMemX 12 0 48) = some ([.ref 526], zMemM) := by
  have hc : zcalle 13 18 2 = some zM_X12_init := rfl
  have h := zM_run sc hp
  generalize znew zMemX 12 0 48 = M at h ⊢
  generalize zMemM = M' at h ⊢
  unfold zinv
  rw [hc]
  dsimp only
  rw [if_pos (show zokc zM_X12_init 2 [.ref 526, .ref 526] M = true from rfl)]
  have e : (List.take (zna zM_X12_init 2) [Value.ref 526, .ref 526]).reverse = [.ref 526] := rfl
  rw [e, h]
  rfl
section ZW
variable {p : Program} {l : Launch} {e : Env} {s : State} {m : MethodId} {below : List Frame} {meth : Method} {c : Code} {b : Nat} {sp : UInt32 → Nat} {cy : Nat → ClassId} {D : va_G} {sc : zSc} {X : State → Heap → Prop} {hp : zHp}
theorem zGo_swap {Q : State → Prop} {nl fd ld pc : Nat} {L : List (Option Value)} {S : List Value} {M M' : zMem} (h1 : M.1 = M'.1) (hw : ∀ H, zWd s.heap.size sp cy D M H → zWd s.heap.size sp cy D M' H) (k : zGo p l e room_1 s m #[Value.ref b] below meth c Q s.heap.size nl fd ld sp cy D pc L S M') : zGo p l e room_1 s m #[Value.ref b] below meth c Q s.heap.size nl fd ld sp cy D pc L S M := by
  intro H locs ls hW hS hL
  have h := k H locs ls (hw H hW) hS hL
  have e1 : zN M = zN M' := congrArg Prod.fst h1
  have e2 : zS M = zS M' := congrArg Prod.snd h1
  rw [e1, e2]
  exact h
/-- the prelude: two objects and a row are made -/
theorem z_prelude_ {Q : State → Prop} {MX MM MA : zMem} (nX : MX.1.1 = 526) (nM : MM.1.1 = 553) (sM : MM.1.2 = 24437) (nA : MA.1.1 = 554) (sA : MA.1.2 = 24438) (hMA : znew MM 17 1 1 = MA)
    (hzX : zinv 50 (fun c L M => zex 20000 50 sc hp c 0 L [] M) hp 13 2 15 [.ref 0, .ref 0] (znew zM00 11 0 15) = some ([.ref 0], MX))
    (hzM : zinv 50 (fun c L M => zex 20000 50 sc hp c 0 L [] M) hp 13 2 18 [.ref 526, .ref 526] (znew MX 12 0 48) = some ([.ref 526], MM)) (hC : zCx p s m #[Value.ref b] meth c code 7 13 false s.heap.size sp cy D sc X) (hX : zXst s.heap.size X) (hstr : zStr l s.heap.size sp cy D sc X) (hhp : zHpOK l s.heap.size sp cy D sc hp X)
    (k : zGo p l e room_1 s m #[Value.ref b] below meth c Q s.heap.size 7 0 0 sp cy D 23 [some (.float 0), some (.ref 0), some (.ref 526), some (.ref 553), some (.int 0), none, none] [] MA) :
    zGo p l e room_1 s m #[Value.ref b] below meth c Q s.heap.size 7 0 0 sp cy D 0 [some (.float 0), none, none, none, none, none, none] [] zM00 := by
  have hR : room_1.frames = 2048 ∧ room_1.locals = 84000 ∧ room_1.cells = 601024 ∧ room_1.slots = 7293034 := ⟨rfl, rfl, rfl, rfl⟩
  have hall := zsnd_all hX hstr hhp 20000
  obtain ⟨mM, goM⟩ := zinv_go hX hstr hhp hall hzM
  obtain ⟨mX, goX⟩ := zinv_go hX hstr hhp hall hzX
  have mM2 : MX.1.2 + 48 ≤ MM.1.2 := mM.2
  have dd : ∀ (pc : Nat) (q : Instr × Nat), zlk zI_L pc = some q → decode code pc = .ok q := fun pc q h => zD_L (pc, q) (zlk_mem h)
  have k21 := zst_go (L := [some (.float 0), some (.ref 0), some (.ref 526), some (.ref 553), none, none, none]) (S := [.int 0]) (M := MA) hstr hC (dd 21 _ rfl) rfl rfl ⟨Nat.zero_le _, Nat.zero_le _⟩ ⟨by show MA.1.1 - 0 ≤ _; omega, by show MA.1.2 - 0 ≤ _; omega⟩ k
  have k20 := zst_go (L := [some (.float 0), some (.ref 0), some (.ref 526), some (.ref 553), none, none, none]) (S := []) (M := MA) hstr hC (dd 20 _ rfl) rfl rfl ⟨Nat.zero_le _, Nat.zero_le _⟩ ⟨by show MA.1.1 - 0 ≤ _; omega, by show MA.1.2 - 0 ≤ _; omega⟩ k21
  have k19 := zst_go (L := [some (.float 0), some (.ref 0), some (.ref 526), none, none, none, none]) (S := [.ref 553]) (M := MA) hstr hC (dd 19 _ rfl) rfl rfl ⟨Nat.zero_le _, Nat.zero_le _⟩ ⟨by show MA.1.1 - 0 ≤ _; omega, by show MA.1.2 - 0 ≤ _; omega⟩ k20
  have hz17 : zst 13 false sc 17 (.newarray .long) [some (.float 0), some (.ref 0), some (.ref 526), none, none, none, none] [.int 1] MM = some (19, [some (.float 0), some (.ref 0), some (.ref 526), none, none, none, none], [.ref 553], MA) := by
    show (if ¬ (1 : Int32) < 0 ∧ (1 : Int32).toNatClampNeg ≤ 1000000 then some (19, ([some (.float 0), some (.ref 0), some (.ref 526), none, none, none, none] : List (Option Value)), ([.ref MM.1.1] : List Value), znew MM 17 1 1) else none) = _
    rw [if_pos (by decide), nM, hMA]
  have k17 := zst_go (L := [some (.float 0), some (.ref 0), some (.ref 526), none, none, none, none]) (S := [.int 1]) (M := MM) hstr hC (dd 17 _ rfl) rfl hz17 ⟨Nat.zero_le _, Nat.zero_le _⟩ ⟨by show MA.1.1 - 0 ≤ _; omega, by show MA.1.2 - 0 ≤ _; omega⟩ k19
  have k16 := zst_go (L := [some (.float 0), some (.ref 0), some (.ref 526), none, none, none, none]) (S := []) (M := MM) hstr hC (dd 16 _ rfl) rfl rfl ⟨Nat.zero_le _, Nat.zero_le _⟩ ⟨by show MM.1.1 - 0 ≤ _; omega, by show MM.1.2 - 0 ≤ _; omega⟩ k17
  have k15 := zst_go (L := [some (.float 0), some (.ref 0), none, none, none, none, none]) (S := [.ref 526]) (M := MM) hstr hC (dd 15 _ rfl) rfl rfl ⟨Nat.zero_le _, Nat.zero_le _⟩ ⟨by show MM.1.1 - 0 ≤ _; omega, by show MM.1.2 - 0 ≤ _; omega⟩ k16
  have k12 := goM p e room_1 s m #[Value.ref b] below meth c Q code 7 false 0 0 12 [some (.float 0), some (.ref 0), none, none, none, none, none] hC (Or.inr (Or.inr ⟨rfl, dd 12 _ rfl⟩)) ⟨Nat.zero_le _, Nat.zero_le _⟩ ⟨by omega, by omega, by show MM.1.1 - 0 ≤ _; omega, by show MM.1.2 - 0 ≤ _; omega⟩ k15
  have k11 := zst_go (L := [some (.float 0), some (.ref 0), none, none, none, none, none]) (S := [.ref 526]) (M := znew MX 12 0 48) hstr hC (dd 11 _ rfl) rfl rfl ⟨Nat.zero_le _, Nat.zero_le _⟩ ⟨by show MX.1.1 + 1 - 0 ≤ _; omega, by show MX.1.2 + 48 - 0 ≤ _; omega⟩ k12
  have hz8 : zst 13 false sc 8 (.new 16) [some (.float 0), some (.ref 0), none, none, none, none, none] [] MX = some (11, [some (.float 0), some (.ref 0), none, none, none, none, none], [.ref 526], znew MX 12 0 48) := by
    show some (11, ([some (.float 0), some (.ref 0), none, none, none, none, none] : List (Option Value)), ([.ref MX.1.1] : List Value), znew MX 12 0 48) = _
    rw [nX]
  have k8 := zst_go (L := [some (.float 0), some (.ref 0), none, none, none, none, none]) (S := []) (M := MX) hstr hC (dd 8 _ rfl) rfl hz8 ⟨Nat.zero_le _, Nat.zero_le _⟩ ⟨by show MX.1.1 + 1 - 0 ≤ _; omega, by show MX.1.2 + 48 - 0 ≤ _; omega⟩ k11
  have k7 := zst_go (L := [some (.float 0), none, none, none, none, none, none]) (S := [.ref 0]) (M := MX) hstr hC (dd 7 _ rfl) rfl rfl ⟨Nat.zero_le _, Nat.zero_le _⟩ ⟨by show MX.1.1 - 0 ≤ _; omega, by show MX.1.2 - 0 ≤ _; omega⟩ k8
  have k4 := goX p e room_1 s m #[Value.ref b] below meth c Q code 7 false 0 0 4 [some (.float 0), none, none, none, none, none, none] hC (Or.inr (Or.inr ⟨rfl, dd 4 _ rfl⟩)) ⟨Nat.zero_le _, Nat.zero_le _⟩ ⟨by omega, by omega, by show MX.1.1 - 0 ≤ _; omega, by show MX.1.2 - 0 ≤ _; omega⟩ k7
  have k3 := zst_go (L := [some (.float 0), none, none, none, none, none, none]) (S := [.ref 0]) (M := znew zM00 11 0 15) hstr hC (dd 3 _ rfl) rfl rfl ⟨Nat.zero_le _, Nat.zero_le _⟩ ⟨by show 1 - 0 ≤ _; omega, by show 15 - 0 ≤ _; omega⟩ k4
  exact zst_go (L := [some (.float 0), none, none, none, none, none, none]) (S := []) (M := zM00) hstr hC (dd 0 _ rfl) rfl rfl ⟨Nat.zero_le _, Nat.zero_le _⟩ ⟨by show 1 - 0 ≤ _; omega, by show 15 - 0 ≤ _; omega⟩ k3
theorem z_prelude {Q : State → Prop} (hC : zCx p s m #[Value.ref b] meth c code 7 13 false s.heap.size sp cy D sc X) (hX : zXst s.heap.size X) (hstr : zStr l s.heap.size sp cy D sc X) (hhp : zHpOK l s.heap.size sp cy D sc hp X)
    (k : zGo p l e room_1 s m #[Value.ref b] below meth c Q s.heap.size 7 0 0 sp cy D 23 [some (.float 0), some (.ref 0), some (.ref 526), some (.ref 553), some (.int 0), none, none] [] zMemA) :
    zGo p l e room_1 s m #[Value.ref b] below meth c Q s.heap.size 7 0 0 sp cy D 0 [some (.float 0), none, none, none, none, none, none] [] zM00 :=
  z_prelude_ zX_n zM_n zM_s (congrArg Prod.fst zA_1) (congrArg Prod.snd zA_1) rfl (zinvX sc hp) (zinvM sc hp) hC hX hstr hhp k
theorem whole_run {g' : zSg} (hC : zCx p s m #[Value.ref b] meth c code 7 13 false s.heap.size sp cy D sc X) (hsp : sp 0 = b) (hr : meth.sig.returnType = ret) (hX : zXst s.heap.size X) (hstr : zStr l s.heap.size sp cy D sc X) (hhp : zHpOK l s.heap.size sp cy D sc hp X) (hH : zHok hp)
    (hmain : f_L_law_23 sc zFu 0 g0 = some (1, g')) (hb1 : g'.1.1 ≤ 601024) (hb2 : g'.1.2 ≤ 7293034) : W p l e room_1 s m #[Value.ref b] below meth c s.heap [] 0 0 (lw_Z below #[Value.ref b] s) (entryFrame m ([Value.ref b] : List Value).toArray 7) := by
  obtain ⟨hx, hb, hml, hown, hts, hK, hold, hini, hlocks⟩ := id hC
  obtain ⟨N, hN⟩ := p_L_law_23 (hp := hp) (d := 1000) (by decide) sc hH zFu 0 g0 (1, g') hmain
  have hend : zEnd p l e room_1 s m #[Value.ref b] below meth c (lw_Z below #[Value.ref b] s) code s.heap.size 0 0 sp cy D (some .boolean) (some (.int 1)) (gm g') := by
    intro H locs ls pc i S hd hz hW hS
    unfold zret at hz
    split at hz
    · rename_i h9; cases h9
    · split at hz
      · cases hz
        exact va_forget hS.2.2 (W.widen (k := 601024) (n := 7293034) hb1 hb2 (lw_ret hx hb hr hlocks hd))
      · cases hz
    · cases hz
    · cases hz
    · cases hz
    · cases hz
  have hs := (zsnd_all hX hstr hhp N 1000 zcdL 23 _ [] (gm g0) (some (.int 1)) (gm g') hN).2 p e room_1 s m #[Value.ref b] below meth c (lw_Z below #[Value.ref b] s) code 7 0 0 hC zD_L ⟨Nat.zero_le _, Nat.zero_le _⟩ ⟨(by decide : 1000 ≤ 2048), (by decide : 64 * 1000 ≤ 84000), hb1, hb2⟩ hend
  have h23 : zGo p l e room_1 s m #[Value.ref b] below meth c (lw_Z below #[Value.ref b] s) s.heap.size 7 0 0 sp cy D 23 [some (.float 0), some (.ref 0), some (.ref 526), some (.ref 553), some (.int 0), none, none] [] zMemA := by
    exact zGo_swap (M := zMemA) (M' := gm g0) zA_1 (fun H hW => zstart_Wd hW) hs
  have h0 := z_prelude hC hX hstr hhp h23 s.heap [] ((lg_sl ([Value.ref b]) ++ List.replicate (7 - (lg_sl ([Value.ref b])).length) Slot.unset).toArray) ⟨rfl, fun k hk => absurd hk (by show ¬ (99 < 99); omega)⟩ va_S.rf (by
    have h := zent_LR (b := s.heap.size) (sp := sp) (As := [.float 0]) (n := 7) (by decide)
    have e : ([Value.float 0].map (zt s.heap.size sp)) = [.ref b] := by show [Value.ref (sp 0)] = _; rw [hsp]
    rw [e] at h
    exact h)
  rw [lg_entry_eq]
  exact h0
end ZW
