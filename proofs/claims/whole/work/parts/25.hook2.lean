/-! ===== the hook ===== -/
def zI_LP : List (Nat × Instr × Nat) := [(0, .aload_n 3, 1), (1, .iconst 0, 1), (2, .aload_n 0, 1), (3, .iload_n 1, 1), (4, .iload_n 2, 1), (5, .invokevirtual 7, 3), (8, .i2l, 1), (9, .lastore, 1), (10, .goto 7, 3), (13, .astore 4, 2), (15, .iconst 1, 1), (16, .ireturn, 1), (17, .iconst 0, 1), (18, .ireturn, 1)]
theorem zD_LP : ∀ q ∈ zI_LP, decode cL_person q.1 = .ok q.2 := by decide +kernel
def zcdLP : zCd := (13, false, some .int, zI_LP)
theorem zhp0_ok {l : Launch} {b : Nat} {sp : UInt32 → Nat} {cy : Nat → ClassId} {D : va_G} {sc : zSc} {X : State → Heap → Prop} : zHpOK l b sp cy D sc zhp0 X := fun _ _ _ _ h => nomatch h
/-- the thrown object's cell and nothing else is new -/
def zxXC (b : Nat) (sp : UInt32 → Nat) (cy : Nat → ClassId) (D : va_G) (g : zSg) : String → State → State → Prop := fun E st t => E = "java/util/NoSuchElementException" ∧ zWd b sp cy D (gm (gbump g)) t.heap ∧ va_F (fun q => b ≤ q) st t
theorem zWd_bump {b : Nat} {sp : UInt32 → Nat} {cy : Nat → ClassId} {D : va_G} {g : zSg} {H H1 : Heap} (hW : zWd b sp cy D (gm g) H) (hz : H1.size = H.size + 1) (hq : ∀ q : Nat, q < H.size → H1[q]? = H[q]?) : zWd b sp cy D (gm (gbump g)) H1 := by
  refine ⟨by rw [hz, hW.1]; rfl, fun k hk => ?_⟩
  obtain ⟨h1, h2⟩ := hW.2 k hk
  refine ⟨Nat.lt_succ_of_lt h1, h2.kept (hq _ ?_)⟩
  show b + k < H.size
  rw [hW.1]
  omega
theorem hasPerson_g {a : Nat} {x : Int32} {g : zSg} {r : Int32 × zSg} (h : f_X0_hasPerson a x g = some r) : r.2 = g := by
  unfold f_X0_hasPerson at h
  split at h
  · cases h; rfl
  · split at h
    · cases h; rfl
    · cases h; rfl
theorem zw_nsL : Cond.classLink RX11 184 "java/util/NoSuchElementException" ∈ lw_tbl := List.mem_of_getElem? (i := 1415) (by decide +kernel)
theorem zw_nsI : Cond.initialized "java/util/NoSuchElementException" ∈ lw_tbl := List.mem_of_getElem? (i := 136) (by decide +kernel)
theorem zst_if {own pc t : Nat} {ini : Bool} {sc : zSc} {c : Jvm.ClassFile.Cond} {off : Int} {x : Int32} {L : List (Option Value)} {S : List Value} {M : zMem} (P : Prop) [Decidable P] (ht : zjmp pc off = some t) (hP : zcmp c x 0 = decide P) (h : P) : zst own ini sc pc (.ifCond c off) L (.int x :: S) M = some (t, L, S, M) := by
  unfold zst
  simp only [ht, hP, decide_eq_true h, if_true]
theorem zst_ifn {own pc t : Nat} {ini : Bool} {sc : zSc} {c : Jvm.ClassFile.Cond} {off : Int} {x : Int32} {L : List (Option Value)} {S : List Value} {M : zMem} (P : Prop) [Decidable P] (ht : zjmp pc off = some t) (hP : zcmp c x 0 = decide P) (h : ¬ P) : zst own ini sc pc (.ifCond c off) L (.int x :: S) M = some (pc + 3, L, S, M) := by
  unfold zst
  simp only [ht, hP, decide_eq_false h]
  rfl
theorem zst_icmpn {own pc t : Nat} {ini : Bool} {sc : zSc} {c : Jvm.ClassFile.Cond} {off : Int} {x y : Int32} {L : List (Option Value)} {S : List Value} {M : zMem} (P : Prop) [Decidable P] (ht : zjmp pc off = some t) (hP : zcmp c x y = decide P) (h : ¬ P) : zst own ini sc pc (.if_icmp c off) L (.int y :: .int x :: S) M = some (pc + 3, L, S, M) := by
  unfold zst
  simp only [ht, hP, decide_eq_false h]
  rfl
section ZHK
variable {l : Launch} {b : Nat} {sp : UInt32 → Nat} {cy : Nat → ClassId} {D : va_G} {sc : zSc} {t : Nat}
set_option maxHeartbeats 1000000 in
theorem zx_person (hl : l.stackTraces = false) {d : Nat} (hd : 8 ≤ d) {x w : Int32} {g g1 : zSg} {v : Int32} (hf : f_X0_hasPerson 3 x g = some (v, g1)) (hc : v = 0 ∨ w < 0 ∨ 2 < w) :
    vx_Met l yX11_person (Cond.code yX11_person cX11_person 3 (some .int) :: zTs) ({ frames := d, cells := 1, slots := 6, locals := 64 * d } : Room) (zPc b sp cy D sc (zXX b (sp 2) t) (gm g) [.ref 0, .int x, .int w]) (fun _ _ _ _ => False) (zxXC b sp cy D g) 1 6 (fun q => b ≤ q) := by
  have hg1 : g1 = g := hasPerson_g hf
  subst hg1
  refine vx_ofW (cc := cX11_person) (maxL := 3) (ret := some .int) (by decide) rfl ?_
  intro p e s m args below meth c s₁ B hml htab hv
  obtain ⟨rfl, hWd, hK, hold⟩ := hv
  have hts0 := atoms_spec (ws := Cond.code yX11_person cX11_person 3 (some .int) :: zTs) B.pre
  have hts : ∀ wd ∈ zTs, wd.before (([.ref 0, .int x, .int w] : List Value).map (zt b sp)).toArray s = true := fun wd hw => hts0 wd (List.mem_cons_of_mem _ hw)
  have hown : s.vm.findClass (zRN 11) = some m.cls := findClass_of_methodNamed B.named
  have hlocks := B.notSynchronized
  have hC : zCx p s m (([.ref 0, .int x, .int w] : List Value).map (zt b sp)).toArray meth c cX11_person 3 11 false b sp cy D sc (zXX b (sp 2) t) := ⟨B.exec, B.bytes, hml, hown, hts, hK, hold, fun hi => Bool.noConfusion hi, hlocks⟩
  have hXX : zXX b (sp 2) t s s.heap := hold.2.2.2.2.2.2.2.2.2
  have hhp : zHpOK l b sp cy D sc zhp0 (zXX b (sp 2) t) := zhp0_ok
  have hstr : zStr l b sp cy D sc (zXX b (sp 2) t) := zstr_ok
  have dd : ∀ (pc : Nat) (q : Instr × Nat), zlk zI_X11_person pc = some q → decode cX11_person pc = .ok q := fun pc q h => zD_X11_person (pc, q) (zlk_mem h)
  rw [lg_entry_eq]
  obtain ⟨N, hN⟩ := p_X0_hasPerson (sc := sc) (hp := zhp0) 3 rfl hf 0 (Nat.le_refl _)
  have hR1 : zN (gm g1) - zN (gm g1) ≤ 1 ∧ zS (gm g1) - zS (gm g1) ≤ 6 := ⟨by omega, by omega⟩
  have hR0 : zN (gm g1) ≤ zN (gm g1) ∧ zS (gm g1) ≤ zS (gm g1) := ⟨Nat.le_refl _, Nat.le_refl _⟩
  have k20 : zGo p l e ({ frames := d, cells := 1, slots := 6, locals := 64 * d } : Room) s m (([.ref 0, .int x, .int w] : List Value).map (zt b sp)).toArray below meth c (vx_MQ below (fun _ _ _ _ => False) (zxXC b sp cy D g1) (([.ref 0, .int x, .int w] : List Value).map (zt b sp)).toArray s 1 6 (fun q => b ≤ q)) b 3 (zN (gm g1)) (zS (gm g1)) sp cy D 20 [some (.ref 0), some (.int x), some (.int w)] [] (gm g1) := by
    intro H locs ls hW hS hL
    rw [Nat.sub_self, Nat.sub_self]
    refine zx_throw0 (own := RX11) (cls := "java/util/NoSuchElementException") (names := ["java/lang/RuntimeException", "java/lang/Exception"]) (ik := 184) (ic := 186) (A := fun a => b ≤ a) (rest := []) (pc := 20) B.exec B.bytes hl hown (by decide +kernel) (by decide +kernel)
      (hts _ (zTs_of zw_nsL rfl)) (hts _ (zTs_of zw_nsI rfl)) (fun w hw => ?_) (fun w hw => ?_) hXX.2.2.2.1 hXX.2.2.2.2.1 hS (by rw [hml]; exact hL.1)
      (dd 20 _ rfl) (dd 23 _ rfl) (dd 24 _ rfl) (dd 27 _ rfl) (fun x hx => absurd (htab x hx) id) (by show 2 + 3 < d; omega) (by show 0 + (13 * (2 + 1) + 42) ≤ 64 * d; omega) (Nat.le_refl _) (Nat.le_refl _) hlocks ?_ hS.2.2 (Nat.le_refl _) (Nat.le_refl _)
    · by_cases hgw : goodWord w = true
      · exact hts w (zTs_of (zxAt_in w hw) hgw)
      · have hwb : w ∈ zxBad := List.mem_filter.mpr ⟨hw, by simpa using hgw⟩
        exact va_Nw.use (List.all_eq_true.mp zxBad_tab w hwb) (hXX.2.2.2.2.2 w hwb)
    · rcases List.mem_cons.mp hw with rfl | hw
      · rfl
      · rcases List.mem_cons.mp hw with rfl | hw
        · rfl
        · by_cases hgw : goodWord w = true
          · unfold vx_ot; rw [hgw, Bool.or_true]
          · have hwb : w ∈ zxBad := List.mem_filter.mpr ⟨hw, by simpa using hgw⟩
            unfold vx_ot; rw [List.all_eq_true.mp zxBad_tab w hwb, Bool.true_or]
    · intro t1 _ hz hq
      exact ⟨rfl, zWd_bump hW hz hq, by rw [hz]; exact Nat.le_succ_of_le hS.1, fun q h1 h2 => by rw [hq q (Nat.lt_of_lt_of_le h1 hS.1)]; exact hS.2.1 q h1 h2⟩
  have k8 : zGo p l e ({ frames := d, cells := 1, slots := 6, locals := 64 * d } : Room) s m (([.ref 0, .int x, .int w] : List Value).map (zt b sp)).toArray below meth c (vx_MQ below (fun _ _ _ _ => False) (zxXC b sp cy D g1) (([.ref 0, .int x, .int w] : List Value).map (zt b sp)).toArray s 1 6 (fun q => b ≤ q)) b 3 (zN (gm g1)) (zS (gm g1)) sp cy D 8 [some (.ref 0), some (.int x), some (.int w)] [.int v] (gm g1) := by
    by_cases h0 : v = 0
    · exact zst_go hstr hC (dd 8 _ rfl) rfl (zst_if (v = 0) rfl rfl h0) hR0 hR1 k20
    · refine zst_go (pc' := 11) (L' := [some (.ref 0), some (.int x), some (.int w)]) (S' := []) (M' := gm g1) hstr hC (dd 8 _ rfl) rfl (zst_ifn (t := 20) (v = 0) rfl rfl h0) hR0 hR1 ?_
      refine zst_go (pc' := 12) (L' := [some (.ref 0), some (.int x), some (.int w)]) (S' := [.int w]) (M' := gm g1) hstr hC (dd 11 _ rfl) rfl rfl hR0 hR1 ?_
      by_cases h1 : w < 0
      · exact zst_go hstr hC (dd 12 _ rfl) rfl (zst_if (w < 0) rfl rfl h1) hR0 hR1 k20
      · refine zst_go (pc' := 15) (L' := [some (.ref 0), some (.int x), some (.int w)]) (S' := []) (M' := gm g1) hstr hC (dd 12 _ rfl) rfl (zst_ifn (t := 20) (w < 0) rfl rfl h1) hR0 hR1 ?_
        refine zst_go (pc' := 16) (L' := [some (.ref 0), some (.int x), some (.int w)]) (S' := [.int w]) (M' := gm g1) hstr hC (dd 15 _ rfl) rfl rfl hR0 hR1 ?_
        refine zst_go (pc' := 17) (L' := [some (.ref 0), some (.int x), some (.int w)]) (S' := [.int 2, .int w]) (M' := gm g1) hstr hC (dd 16 _ rfl) rfl rfl hR0 hR1 ?_
        have h2 : ¬ w ≤ 2 := by
          rcases hc with h | h | h
          · exact absurd h h0
          · exact absurd h h1
          · exact Int32.not_le.mpr h
        exact zst_go hstr hC (dd 17 _ rfl) rfl (zst_icmpn (t := 28) (w ≤ 2) rfl rfl h2) hR0 hR1 k20
  have hz5 : zinv 0 (fun c L M => zex N 0 sc zhp0 c 0 L [] M) zhp0 11 1 180 [.int x, .ref 3] (gm g1) = some ([.int v], gm g1) := by
    unfold zinv
    rw [show zcalle 11 180 1 = some zM_X0_hasPerson from rfl]
    dsimp only
    rw [if_pos (show zokc zM_X0_hasPerson 1 [.int x, .ref 3] (gm g1) = true from rfl)]
    show (match zex N 0 sc zhp0 (zcd zM_X0_hasPerson) 0 (zent [.ref 3, .int x] zM_X0_hasPerson.2.2.1) [] (gm g1) with
      | some (v, M') => some (v.toList ++ [], M')
      | none => none) = _
    rw [hN]
    rfl
  obtain ⟨-, go5⟩ := zinv_go (zXX_st) hstr hhp (zsnd_all zXX_st hstr hhp N) hz5
  have k5 := go5 p e ({ frames := d, cells := 1, slots := 6, locals := 64 * d } : Room) s m (([.ref 0, .int x, .int w] : List Value).map (zt b sp)).toArray below meth c (vx_MQ below (fun _ _ _ _ => False) (zxXC b sp cy D g1) (([.ref 0, .int x, .int w] : List Value).map (zt b sp)).toArray s 1 6 (fun q => b ≤ q)) cX11_person 3 false (zN (gm g1)) (zS (gm g1)) 5 [some (.ref 0), some (.int x), some (.int w)] hC (Or.inr (Or.inl ⟨rfl, dd 5 _ rfl⟩)) hR0 ⟨by show 0 + 1 ≤ d; omega, by show 64 * (0 + 1) ≤ 64 * d; omega, hR1.1, hR1.2⟩ k8
  have k4 := zst_go (L := [some (.ref 0), some (.int x), some (.int w)]) (S := [.ref 3]) (M := gm g1) hstr hC (dd 4 _ rfl) rfl rfl hR0 hR1 k5
  have k1 := zst_go (L := [some (.ref 0), some (.int x), some (.int w)]) (S := [.ref 0]) (M := gm g1) hstr hC (dd 1 _ rfl) rfl rfl hR0 hR1 k4
  have k0 := zst_go (L := [some (.ref 0), some (.int x), some (.int w)]) (S := []) (M := gm g1) hstr hC (dd 0 _ rfl) rfl rfl hR0 hR1 k1
  have h := k0 s.heap [] _ hWd va_S.rf (zent_LR (b := b) (sp := sp) (As := [.ref 0, .int x, .int w]) (n := 3) (Nat.le_of_ble_eq_true rfl))
  rw [Nat.sub_self, Nat.sub_self] at h
  exact h
end ZHK
