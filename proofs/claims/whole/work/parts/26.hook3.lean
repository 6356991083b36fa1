/-! ===== the law's person, and the hook's own contract ===== -/
theorem zm_ofWH {l : Launch} {y : MethodName} {ws ws' : List Cond} {rm : Room} {Pc : Array Value → State → Prop} {Qc : Array Value → State → Outcome → State → Prop} {mc ms : Nat} {free : Addr → Prop} {cc : ByteArray} {maxL : Nat} {ret : Option FieldType} {hh : List (Nat × Nat × Nat × Nat)}
    (hy : plainName y.cls = true) (hw : ws = Cond.codeWith y cc maxL ret hh :: ws')
    (body : ∀ p e s m args below meth c s₁, BodyLoose p l y (headSpec ws rm) cc maxL ret e s m args below meth c s₁ → c.maxLocals = maxL → Pc args s →
      W p l e (headSpec ws rm).room s m args below meth c s.heap [] 0 0 (MQ below Qc args s mc ms free) (entryFrame m args maxL)) : Met l y ws rm Pc Qc mc ms free := by
  refine MetFree.of_bodyS (code := cc) (maxLocals := maxL) (ret := ret) hy ?_ ?_
  · intro args s m h hn
    obtain ⟨m9, meth, c, hn9, h1, h2, h3, h4, -, h5, h6, -⟩ := Cond.codeWith_spec (atoms_spec (ws := ws) h _ (by rw [hw]; exact List.mem_cons_self))
    cases hn.symm.trans hn9
    exact ⟨meth, c, h1, h2, h3, h4, h5, h6⟩
  · intro p e s m args below meth c s₁ B hml hP _
    have hh0 : s₁.heap = s.heap := by rw [B.state]; rfl
    obtain ⟨t, a1, o, b1, b2, b3⟩ := body p e s m args below meth c s₁ B hml hP s₁ hh0 (Stand.of_body B)
    exact ⟨t, o, a1, b1, b2, b3⟩
theorem zx_cwV {R : Room} {s : State} {args : Array Value} {own : String} {index maxL d n mc ms : Nat} {y : MethodName} {cc : ByteArray} {ret : FieldType} (hts : ∀ w ∈ zTs, w.before args s = true) (hl : Cond.methodLink own index y ∈ zTs) (hi : Cond.instanceMethod y ∈ zTs) (hs : Cond.selects y.cls y y ∈ zTs) (hini : Cond.initialized y.cls ∈ zTs) (hc : Cond.code y cc maxL (some ret) ∈ zTs)
    (hd : y.cls ≠ "java/lang/invoke/MethodHandle" ∧ y.cls ≠ "java/lang/invoke/VarHandle" ∧ (parseMethodDescriptor y.desc).map (fun d => d.parameters.length) = some n) (hR : d + 1 ≤ R.frames ∧ 8 + (maxL + 11) + 64 * d ≤ R.locals) :
    CallW R s args own y.cls index y cc maxL (some ret) (Cond.code y cc maxL (some ret) :: zTs) ({ frames := d, cells := mc, slots := ms, locals := 64 * d } : Room) mc ms n := by
  refine cwV _ hts ?_ rfl rfl rfl ⟨rfl, hd⟩ hR
  intro w hw
  have hg : ∀ w ∈ zTs, GoodIn zTs [w] := fun w h w' h' => by
    rw [List.mem_singleton] at h'
    subst h'
    exact ⟨h, good_of_word (List.mem_filter.mp h).2⟩
  rcases List.mem_append.mp hw with h | h
  · simp only [List.mem_cons, List.not_mem_nil, or_false] at h
    rcases h with rfl | rfl | rfl | rfl
    · exact hg _ hl _ List.mem_cons_self
    · exact hg _ hi _ List.mem_cons_self
    · exact hg _ hs _ List.mem_cons_self
    · exact hg _ hini _ List.mem_cons_self
  · rcases List.mem_cons.mp h with h | h
    · subst h
      exact hg _ hc _ List.mem_cons_self
    · exact hg _ h _ List.mem_cons_self
theorem zw_lpW : Cond.codeWith yL_person cL_person 5 (some .int) [(0, 10, 13, 13)] ∈ lw_tbl := List.mem_of_getElem? (i := 1409) (by decide +kernel)
theorem zw_lpL : Cond.classLink RL 13 "java/util/NoSuchElementException" ∈ lw_tbl := List.mem_of_getElem? (i := 1410) (by decide +kernel)
theorem zw_lpM : Cond.methodLink RL 7 yX11_person ∈ lw_tbl := List.mem_of_getElem? (i := 1411) (by decide +kernel)
theorem zw_lpS : Cond.static yL_person ∈ lw_tbl := List.mem_of_getElem? (i := 1408) (by decide +kernel)
theorem zw_lpK : Cond.methodLink RL 42 yL_person ∈ lw_tbl := List.mem_of_getElem? (i := 1407) (by decide +kernel)
theorem zw_nsC : Cond.castable "java/util/NoSuchElementException" "java/util/NoSuchElementException" ∈ zxAt := by decide +kernel
theorem zw_iniL : Cond.initialized RL ∈ lw_tbl := List.mem_of_getElem? (i := 112) (by decide +kernel)
abbrev zLw : List Cond := Cond.codeWith yL_person cL_person 5 (some .int) [(0, 10, 13, 13)] :: zTs
section ZHL
variable {l : Launch} {b : Nat} {sp : UInt32 → Nat} {cy : Nat → ClassId} {D : va_G} {sc : zSc} {t : Nat}
/-- nothing is thrown: the clean machine runs it -/
theorem zl_norm {d N : Nat} (hd : 1 ≤ d) {x w : Int32} {g g' : zSg} {v : Int32} (hz : zex N d sc zhp0 zcdLP 0 [some (.ref 0), some (.int x), some (.int w), some (.ref 553), none] [] (gm g) = some (some (.int v), gm g')) :
    (zN (gm g) ≤ zN (gm g') ∧ zS (gm g) ≤ zS (gm g')) ∧ Met l yL_person zLw ({ frames := d, cells := zN (gm g') - zN (gm g), slots := zS (gm g') - zS (gm g), locals := 64 * d } : Room) (zPc b sp cy D sc (zXX b (sp 2) t) (gm g) [.ref 0, .int x, .int w, .ref 553]) (zQc b sp cy D (some (.int v)) (gm g')) (zN (gm g') - zN (gm g)) (zS (gm g') - zS (gm g)) (fun q => b ≤ q) := by
  have hall := zsnd_all (zXX_st (b := b) (q := sp 2) (t := t)) (zstr_ok (l := l) (cy := cy) (D := D) (sc := sc)) (zhp0_ok) N
  refine ⟨(hall d zcdLP 0 _ [] (gm g) _ (gm g') hz).1, ?_⟩
  refine zm_ofWH (cc := cL_person) (maxL := 5) (ret := some .int) (hh := [(0, 10, 13, 13)]) (ws' := zTs) (by decide) rfl ?_
  intro p e s m args below meth c s₁ B hml hv
  obtain ⟨rfl, hWd, hK, hold⟩ := hv
  have hts0 := atoms_spec (ws := zLw) B.pre
  have hts : ∀ wd ∈ zTs, wd.before (([.ref 0, .int x, .int w, .ref 553] : List Value).map (zt b sp)).toArray s = true := fun wd hw => hts0 wd (List.mem_cons_of_mem _ hw)
  have hown : s.vm.findClass (zRN 13) = some m.cls := findClass_of_methodNamed B.named
  have hC : zCx p s m (([.ref 0, .int x, .int w, .ref 553] : List Value).map (zt b sp)).toArray meth c cL_person 5 zcdLP.1 zcdLP.2.1 b sp cy D sc (zXX b (sp 2) t) := ⟨B.exec, B.bytes, hml, hown, hts, hK, hold, fun hi => Bool.noConfusion hi, B.notSynchronized⟩
  rw [lg_entry_eq]
  have h := (hall d zcdLP 0 _ [] (gm g) _ (gm g') hz).2 p e ({ frames := d, cells := zN (gm g') - zN (gm g), slots := zS (gm g') - zS (gm g), locals := 64 * d } : Room) s m (([.ref 0, .int x, .int w, .ref 553] : List Value).map (zt b sp)).toArray below meth c
    (MQ below (zQc b sp cy D (some (.int v)) (gm g')) (([.ref 0, .int x, .int w, .ref 553] : List Value).map (zt b sp)).toArray s (zN (gm g') - zN (gm g)) (zS (gm g') - zS (gm g)) (fun q => b ≤ q)) cL_person 5 (zN (gm g)) (zS (gm g)) hC zD_LP ⟨Nat.le_refl _, Nat.le_refl _⟩ ⟨Nat.le_refl _, Nat.le_refl _, Nat.le_refl _, Nat.le_refl _⟩ (zend_of hC B.returns) s.heap [] _ hWd va_S.rf (zent_LR (b := b) (sp := sp) (As := [.ref 0, .int x, .int w, .ref 553]) (n := 5) (Nat.le_of_ble_eq_true rfl))
  rw [Nat.sub_self, Nat.sub_self] at h
  exact h
set_option maxHeartbeats 1000000 in
theorem zl_throw (hl : l.stackTraces = false) {d : Nat} (hd : 10 ≤ d) {x w : Int32} {g g1 : zSg} {v : Int32} (hf : f_X0_hasPerson 3 x g = some (v, g1)) (hc : v = 0 ∨ w < 0 ∨ 2 < w) :
    Met l yL_person zLw ({ frames := d, cells := 1, slots := 6, locals := 64 * d } : Room) (zPc b sp cy D sc (zXX b (sp 2) t) (gm g) [.ref 0, .int x, .int w, .ref 553]) (zQc b sp cy D (some (.int 1)) (gm (gbump g))) 1 6 (fun q => b ≤ q) := by
  refine zm_ofWH (cc := cL_person) (maxL := 5) (ret := some .int) (hh := [(0, 10, 13, 13)]) (ws' := zTs) (by decide) rfl ?_
  intro p e s m args below meth c s₁ B hml hv
  obtain ⟨rfl, hWd, hK, hold⟩ := hv
  have hts0 := atoms_spec (ws := zLw) B.pre
  have hts : ∀ wd ∈ zTs, wd.before (([.ref 0, .int x, .int w, .ref 553] : List Value).map (zt b sp)).toArray s = true := fun wd hw => hts0 wd (List.mem_cons_of_mem _ hw)
  have hown : s.vm.findClass (zRN 13) = some m.cls := findClass_of_methodNamed B.named
  have hlocks := B.notSynchronized
  have hC : zCx p s m (([.ref 0, .int x, .int w, .ref 553] : List Value).map (zt b sp)).toArray meth c cL_person 5 13 false b sp cy D sc (zXX b (sp 2) t) := ⟨B.exec, B.bytes, hml, hown, hts, hK, hold, fun hi => Bool.noConfusion hi, hlocks⟩
  have hXX : zXX b (sp 2) t s s.heap := hold.2.2.2.2.2.2.2.2.2
  have hstr : zStr l b sp cy D sc (zXX b (sp 2) t) := zstr_ok
  have htab := vx_table (x := yL_person) B (hts0 _ List.mem_cons_self)
  have dd : ∀ (pc : Nat) (q : Instr × Nat), zlk zI_LP pc = some q → decode cL_person pc = .ok q := fun pc q h => zD_LP (pc, q) (zlk_mem h)
  rw [lg_entry_eq]
  have hR1 : zN (gm g) - zN (gm g) ≤ 1 ∧ zS (gm g) - zS (gm g) ≤ 6 := ⟨by omega, by omega⟩
  have hR0 : zN (gm g) ≤ zN (gm g) ∧ zS (gm g) ≤ zS (gm g) := ⟨Nat.le_refl _, Nat.le_refl _⟩
  have k5 : zGo p l e ({ frames := d, cells := 1, slots := 6, locals := 64 * d } : Room) s m (([.ref 0, .int x, .int w, .ref 553] : List Value).map (zt b sp)).toArray below meth c (MQ below (zQc b sp cy D (some (.int 1)) (gm (gbump g))) (([.ref 0, .int x, .int w, .ref 553] : List Value).map (zt b sp)).toArray s 1 6 (fun q => b ≤ q)) b 5 (zN (gm g)) (zS (gm g)) sp cy D 5 [some (.ref 0), some (.int x), some (.int w), some (.ref 553), none] [.int w, .int x, .ref 0, .int 0, .ref 553] (gm g) := by
    intro H locs ls hW hS hL
    rw [Nat.sub_self, Nat.sub_self]
    have hrecvH : ∃ cellB : Cell, H[b + 0]? = some cellB ∧ cellB.vm.isStatics = false ∧ s.vm.findClass yX11_person.cls = some cellB.cls := by
      obtain ⟨cell, w1, w2, w3⟩ := va_recv hK (hW.P (a := 0) (show (zK0 0).1 < 99 from by decide +kernel)) (zCk_cl (by decide : 11 < 13)) (q0 := 0) (by rw [zE_obj (c := 11) (show (zK0 0).1 = 11 from by decide +kernel) (by decide)]; rfl)
      exact ⟨cell, w1, w2, w3⟩
    have hrun := vx_runV (own := zRN 13) (C := yX11_person.cls) (n := 2) (g := F0 m 5 ls [.int w, .int x, .ref (b + 0), .int 0, .ref (b + 553)]) (rest := [.int 0, .ref (b + 553)]) (As := [.int x, .int w]) (b := b + 0) (H := H) (locs := locs) (cells := 0) (slots := 0) (R := ({ frames := d, cells := 1, slots := 6, locals := 64 * d } : Room)) (e := e) (below := below) (meth := meth)
      ⟨B.exec, B.bytes, hml, hown, hts⟩ (zx_person (t := t) hl (d := 8) (Nat.le_refl _) hf hc)
      (zx_cwV hts (zTs_of zw_lpM rfl) (zTs_of (zP_X11_person.2.2.2.2.2.2.2.1 (by decide)) rfl) (zTs_of (zP_X11_person.2.2.2.2.2.2.2.2.1 (by decide)) rfl) (zTs_of zP_X11_person.2.2.2.1 rfl) (zTs_of zP_X11_person.1 rfl) ⟨by decide, by decide, by decide +kernel⟩ ⟨by show 8 + 1 ≤ d; omega, by show 8 + (3 + 11) + 64 * 8 ≤ 64 * d; omega⟩)
      ⟨zPc_blind zXX_st, hrecvH, fun U hU hWm => zPc_of (As := [.ref 0, .int x, .int w]) zXX_st hC hW hS hU hWm⟩ rfl rfl hL.1 rfl (Nat.le_of_ble_eq_true rfl) (dd 5 _ rfl) ⟨Nat.le_refl _, Nat.le_refl _⟩
    intro T hT X0
    rcases hrun T hT X0 with ⟨v1, st₀, t1, T', L1, h0, X', hL', e1, e2, hq, st⟩ | ⟨q, st₀, t1, T', L1, E, ce, h0, X', hL', e1, e2, ⟨rfl, hWd1, hF1, hF2⟩, hce, hcv, hcl, st⟩
    · exact absurd hq id
    · rw [h0] at hF1 hF2
      have hS1 : va_S (fun q => b ≤ q) s.heap T'.heap (locs ++ L1) := ⟨Nat.le_trans hS.1 (by rw [e1]; exact hF1), fun q h1 h2 => by rw [e1, hF2 q (Nat.lt_of_lt_of_le h1 hS.1) h2]; exact hS.2.1 q h1 h2, fun q hq => (List.mem_append.mp hq).elim (hS.2.2 q) (hL' q)⟩
      have hcast : (Cond.castable "java/util/NoSuchElementException" "java/util/NoSuchElementException").before (([.ref 0, .int x, .int w, .ref 553] : List Value).map (zt b sp)).toArray s = true := by
        by_cases hgw : goodWord (Cond.castable "java/util/NoSuchElementException" "java/util/NoSuchElementException") = true
        · exact hts _ (zTs_of (zxAt_in _ zw_nsC) hgw)
        · have hwb : Cond.castable "java/util/NoSuchElementException" "java/util/NoSuchElementException" ∈ zxBad := List.mem_filter.mpr ⟨zw_nsC, by simpa using hgw⟩
          exact va_Nw.use (List.all_eq_true.mp zxBad_tab _ hwb) (hXX.2.2.2.2.2 _ hwb)
      have hk : vx_W p l e ({ frames := d, cells := 1, slots := 6, locals := 64 * d } : Room) s m (([.ref 0, .int x, .int w, .ref 553] : List Value).map (zt b sp)).toArray below meth c T'.heap (locs ++ L1) (0 + 1) (0 + 6) (MQ below (zQc b sp cy D (some (.int 1)) (gm (gbump g))) (([.ref 0, .int x, .int w, .ref 553] : List Value).map (zt b sp)).toArray s 1 6 (fun q => b ≤ q)) (F0 m 5 ls [.int 0, .ref (b + 553)]) q := by
        refine vx_catch (own := zRN 13) (name := "java/util/NoSuchElementException") (E := "java/util/NoSuchElementException") (ce := ce) hown [] ⟨0, 10, 13, 13⟩ [] (by rw [htab]; rfl) (fun z hz => nomatch hz) rfl (by decide) (hts _ (zTs_of zw_lpL rfl)) hcast (by rw [e1]; exact hce) hcv hcl ?_
        have hl5 : lv_has ls 5 [] := ⟨hL.1, hL.2.1, fun _ h => nomatch h⟩
        refine lv_astore B.exec B.bytes (dd 13 _ rfl) hl5 (by decide) rfl (fun ls5 hl5 => ?_)
        refine lv_iconst B.exec B.bytes (dd 15 _ rfl) (v := 1) rfl ?_
        exact W.iret B.exec B.bytes B.returns (fun t2 ht2 _ => ⟨rfl, by rw [ht2, e1]; exact hWd1, by rw [ht2]; exact hS1.1, fun q h1 h2 => by rw [ht2]; exact hS1.2.1 q h1 h2⟩) hS1.2.2 (dd 16 _ rfl) hlocks
      obtain ⟨t2, a1, b1⟩ := hk T' rfl X'
      exact ⟨t2, st.trans a1, b1⟩
  have k4 := zst_go (L := [some (.ref 0), some (.int x), some (.int w), some (.ref 553), none]) (S := [.int x, .ref 0, .int 0, .ref 553]) (M := gm g) hstr hC (dd 4 _ rfl) rfl rfl hR0 hR1 k5
  have k3 := zst_go (L := [some (.ref 0), some (.int x), some (.int w), some (.ref 553), none]) (S := [.ref 0, .int 0, .ref 553]) (M := gm g) hstr hC (dd 3 _ rfl) rfl rfl hR0 hR1 k4
  have k2 := zst_go (L := [some (.ref 0), some (.int x), some (.int w), some (.ref 553), none]) (S := [.int 0, .ref 553]) (M := gm g) hstr hC (dd 2 _ rfl) rfl rfl hR0 hR1 k3
  have k1 := zst_go (L := [some (.ref 0), some (.int x), some (.int w), some (.ref 553), none]) (S := [.ref 553]) (M := gm g) hstr hC (dd 1 _ rfl) rfl rfl hR0 hR1 k2
  have k0 := zst_go (L := [some (.ref 0), some (.int x), some (.int w), some (.ref 553), none]) (S := []) (M := gm g) hstr hC (dd 0 _ rfl) rfl rfl hR0 hR1 k1
  have h := k0 s.heap [] _ hWd va_S.rf (zent_LR (b := b) (sp := sp) (As := [.ref 0, .int x, .int w, .ref 553]) (n := 5) (Nat.le_of_ble_eq_true rfl))
  rw [Nat.sub_self, Nat.sub_self] at h
  exact h
end ZHL
