/-! ===== the clean machine is sound: calls of the table's methods, the induction over fuel ===== -/
section ZF
variable {p : Program} {l : Launch} {e : Env} {R : Room} {s : State} {m : MethodId} {args : Array Value} {below : List Frame} {meth : Method} {c : Code} {Q : State → Prop}
variable {cc : ByteArray} {b nL own n0 s0 pc pc' : Nat} {sp : UInt32 → Nat} {cy : Nat → ClassId} {D : va_G} {sc : zSc} {X : State → Heap → Prop} {ini : Bool} {L L' : List (Option Value)} {S S' : List Value} {M M' Mf : zMem} {hp : zHp}
theorem zcalle_spec {idx kd : Nat} {e' : zE_} (h : zcalle own idx kd = some e') : zPm e' ∧ (Cond.methodLink (zRN own) idx e'.1 ∈ lw_tbl ∨ (kd = 2 ∧ Cond.methodLinkNest (zRN own) idx e'.1 "SmokedSecrets" ∈ lw_tbl)) := by
  unfold zcalle at h
  split at h
  · rename_i k hk
    obtain ⟨e9, h1, h2⟩ := zM_ok hk
    have h1 : zMt k = some e9 := h1
    cases h1.symm.trans h
    exact ⟨zMt_ok h, Or.inl h2⟩
  · split at h
    · rename_i hk2
      obtain ⟨k, hk, h3⟩ := Option.bind_eq_some_iff.mp h
      obtain ⟨e9, h1, h2, -⟩ := zNl_ok hk
      have h1 : zMt k = some e9 := h1
      cases h1.symm.trans h3
      exact ⟨zMt_ok h3, Or.inr ⟨hk2, h2⟩⟩
    · cases h
theorem zgoodIn {e' : zE_} (hm : zPm e') : GoodIn zTs (Cond.code e'.1 e'.2.1 e'.2.2.1 e'.2.2.2.1 :: zTs) := by
  intro w hw
  rcases List.mem_cons.mp hw with h | h
  · rw [h]
    exact ⟨zTs_of hm.1 rfl, good_of_word rfl⟩
  · exact ⟨h, good_of_word (List.mem_filter.mp h).2⟩
theorem zval_map (v : Option Value) (r : List Value) : (v.toList ++ r).map (zt b sp) = (v.map (zt b sp)).toList ++ r.map (zt b sp) := by cases v <;> rfl
set_option maxHeartbeats 2000000 in
theorem zinv_go {N d kd idx : Nat} (hX : zXst b X) (hstr : zStr l b sp cy D sc X) (hhp : zHpOK l b sp cy D sc hp X) (hN : zSnd l b sp cy D sc hp X N) (hz : zinv d (fun c L M => zex N d sc hp c 0 L [] M) hp own kd idx S M = some (S', M')) :
    (zN M ≤ zN M' ∧ zS M ≤ zS M') ∧ ∀ (p : Program) (e : Env) (R : Room) (s : State) (m : MethodId) (args : Array Value) (below : List Frame) (meth : Method) (c : Code) (Q : State → Prop) (cc : ByteArray) (nL : Nat) (ini : Bool) (n0 s0 pc : Nat) (L : List (Option Value)),
      zCx p s m args meth c cc nL own ini b sp cy D sc X → (kd = 0 ∧ decode cc pc = .ok (.invokestatic idx, 3)) ∨ (kd = 1 ∧ decode cc pc = .ok (.invokevirtual idx, 3)) ∨ (kd = 2 ∧ decode cc pc = .ok (.invokespecial idx, 3)) → n0 ≤ zN M ∧ s0 ≤ zS M → d + 1 ≤ R.frames ∧ 64 * (d + 1) ≤ R.locals ∧ zN M' - n0 ≤ R.cells ∧ zS M' - s0 ≤ R.slots →
      zGo p l e R s m args below meth c Q b nL n0 s0 sp cy D (pc + 3) L S' M' → zGo p l e R s m args below meth c Q b nL n0 s0 sp cy D pc L S M := by
  unfold zinv at hz
  split at hz
  · rename_i e' he
    split at hz
    · rename_i hok
      split at hz
      · rename_i v M1 hrc
        simp only [Option.some.injEq, Prod.mk.injEq] at hz
        obtain ⟨rfl, rfl⟩ := hz
        have hmono := (hN d (zcd e') 0 _ [] M v M1 hrc).1
        refine ⟨hmono, fun p e R s m args below meth c Q cc nL ini n0 s0 pc L hC hkd hn hR kk => ?_⟩
        obtain ⟨hx, hb, hml, hown, hts, hK, hold, hini, hlocks⟩ := id hC
        obtain ⟨hm, hlink⟩ := zcalle_spec he
        have hm' := hm
        obtain ⟨h1, h2, h3, h4, h5, h6, h7, h8, h9, h10, h11⟩ := hm'
        unfold zokc at hok
        simp only [Bool.and_eq_true, decide_eq_true_eq] at hok
        obtain ⟨hk, hlen, hcat, hsl, hml40, hrecv⟩ := hok
        have hMet := zMet_of hX hN hm hrc hsl
        have hRm : d + 1 ≤ R.frames ∧ 8 + (e'.2.2.1 + 11) + 64 * d ≤ R.locals := ⟨hR.1, by omega⟩
        have hrest : 2 * (0 : Nat) + (((S.drop (zna e' kd)).map (zt b sp)).map fun v => v.category).sum ≤ 8 := by rw [zcat_map]; omega
        intro H locs ls hW hS hL
        have hsize : ls.size = nL := hL.1
        have hf : zN M - n0 + (zN M1 - zN M) ≤ R.cells ∧ zS M - s0 + (zS M1 - zS M) ≤ R.slots := ⟨by omega, by omega⟩
        have fin : ∀ (st0 : List Value) (a : Array Value), va_Run p l e R s m args below meth c H locs (zN M - n0) (zS M - s0) (zN M1 - zN M) (zS M1 - zS M) (F0 m pc ls st0) ((S.drop (zna e' kd)).map (zt b sp)) (zQc b sp cy D v M1 a) (fun q => b ≤ q) → W p l e R s m args below meth c H locs (zN M - n0) (zS M - s0) Q (F0 m pc ls st0) := by
          intro st0 a hrun
          refine z_call hrun hS fun H1 locs1 hW1 hS1 => ?_
          have h9 := kk H1 locs1 ls hW1 hS1 hL
          rw [zval_map] at h9
          rw [show zN M - n0 + (zN M1 - zN M) = zN M1 - n0 by omega, show zS M - s0 + (zS M1 - zS M) = zS M1 - s0 by omega]
          exact h9
        have hind : ∀ (y : MethodName) (n : Nat), (parseMethodDescriptor y.desc).map (fun d => d.parameters.length) = some n → ∀ sig, parseMethodDescriptor y.desc = some sig → n = sig.parameters.length := by
          intro y n h sig hs
          rw [hs] at h
          exact (Option.some.inj h).symm
        by_cases hk0 : kd = 0
        · subst hk0
          have hd : decode cc pc = .ok (.invokestatic idx, 3) := by
            rcases hkd with ⟨-, h⟩ | ⟨h, -⟩ | ⟨h, -⟩
            · exact h
            · cases h
            · cases h
          have hl : Cond.methodLink (zRN own) idx e'.1 ∈ lw_tbl := by
            rcases hlink with h | ⟨h, -⟩
            · exact h
            · cases h
          have hst : S.map (zt b sp) = ((S.take (zna e' 0)).reverse.map (zt b sp)).reverse ++ (S.drop (zna e' 0)).map (zt b sp) := by
            rw [← List.map_reverse, List.reverse_reverse, ← List.map_append, List.take_append_drop]
          have hcall := va_runS (own := zRN own) (n := e'.2.2.2.2.2.1) (g := F0 m pc ls (S.map (zt b sp))) (rest := (S.drop (zna e' 0)).map (zt b sp)) (As := (S.take (zna e' 0)).reverse.map (zt b sp)) (H := H) (locs := locs) (cells := zN M - n0) (slots := zS M - s0) (R := R) (e := e) (below := below) (meth := meth)
            ⟨hx, hb, hml, hown, hts⟩ hMet
            ⟨callB_of _ hts (zgoodIn hm) rfl rfl rfl (hts _ (zTs_of h4 rfl)) (hts _ (zTs_of hl rfl)) h6 hRm, hts _ (zTs_of (h7 hk) rfl)⟩
            ⟨zPc_blind hX, fun U hU hWm => zPc_of hX hC hW hS hU hWm⟩ rfl (by rw [List.length_map, List.length_reverse, List.length_take, Nat.min_eq_left hlen]; rfl) hsize hst hrest hd hf
          exact fin _ _ hcall
        · obtain ⟨a, hSa⟩ : ∃ a, S[zna e' kd - 1]? = some (.ref a) := by
            unfold zrecv at hrecv
            split at hrecv
            · exact absurd rfl hk0
            · split at hrecv
              · exact ⟨_, ‹_›⟩
              · cases hrecv
            · split at hrecv
              · exact ⟨_, ‹_›⟩
              · cases hrecv
          have hna : zna e' kd = e'.2.2.2.2.2.1 + 1 := by
            unfold zna
            rw [if_neg hk0]
          rw [hna] at hlen hcat hsl hSa hrest fin hrc
          rw [Nat.add_sub_cancel] at hSa
          have hT : (S.take (e'.2.2.2.2.2.1 + 1)).reverse = .ref a :: (S.take e'.2.2.2.2.2.1).reverse := by
            rw [List.take_add_one, hSa, List.reverse_append]
            rfl
          rw [hT] at hrc hsl
          have hMet2 := zMet_of hX hN hm hrc hsl
          have hst : S.map (zt b sp) = ((S.take e'.2.2.2.2.2.1).reverse.map (zt b sp)).reverse ++ .ref (b + a) :: (S.drop (e'.2.2.2.2.2.1 + 1)).map (zt b sp) := by
            rw [← List.map_reverse, List.reverse_reverse]
            have : S = S.take (e'.2.2.2.2.2.1 + 1) ++ S.drop (e'.2.2.2.2.2.1 + 1) := (List.take_append_drop _ _).symm
            conv => lhs; rw [this]
            rw [List.take_add_one, hSa]
            simp [zt]
          have hAs : ((S.take e'.2.2.2.2.2.1).reverse.map (zt b sp)).length = e'.2.2.2.2.2.1 := by rw [List.length_map, List.length_reverse, List.length_take, Nat.min_eq_left (by omega)]
          by_cases hk1 : kd = 1
          · subst hk1
            have hd : decode cc pc = .ok (.invokevirtual idx, 3) := by
              rcases hkd with ⟨h, -⟩ | ⟨-, h⟩ | ⟨h, -⟩
              · cases h
              · exact h
              · cases h
            have hl : Cond.methodLink (zRN own) idx e'.1 ∈ lw_tbl := by
              rcases hlink with h | ⟨h, -⟩
              · exact h
              · cases h
            have hra : zisO M a e'.2.2.2.2.1 = true ∧ e'.2.2.2.2.1 < 13 := by
              unfold zrecv at hrecv
              rw [hna, Nat.add_sub_cancel, hSa] at hrecv
              simpa using hrecv
            have g2 := zisO_spec hra.1
            have g1 : (zK M a).1 < 99 := by rw [g2]; omega
            have hGV : GoodIn zTs (wsV (zRN own) idx e'.1.cls e'.1 (Cond.code e'.1 e'.2.1 e'.2.2.1 e'.2.2.2.1 :: zTs)) := by
              intro w hw
              rcases List.mem_append.mp hw with h | h
              · simp only [List.mem_cons, List.not_mem_nil, or_false] at h
                rcases h with rfl | rfl | rfl | rfl
                · exact ⟨zTs_of hl rfl, good_of_word rfl⟩
                · exact ⟨zTs_of (h8 (by omega)) rfl, good_of_word rfl⟩
                · exact ⟨zTs_of (h9 hk) rfl, good_of_word rfl⟩
                · exact ⟨zTs_of h4 rfl, good_of_word rfl⟩
              · exact zgoodIn hm w h
            have hrecvH : ∃ cellB : Cell, H[b + a]? = some cellB ∧ cellB.vm.isStatics = false ∧ s.vm.findClass e'.1.cls = some cellB.cls := by
              obtain ⟨cell, w1, w2, w3⟩ := va_recv hK (hW.P g1) (zCk_cl hra.2) (q0 := 0) (by rw [zE_obj g2 hra.2]; rfl)
              exact ⟨cell, w1, w2, by rw [h3]; exact w3⟩
            have hcall := va_runV (own := zRN own) (C := e'.1.cls) (n := e'.2.2.2.2.2.1) (g := F0 m pc ls (S.map (zt b sp))) (rest := (S.drop (e'.2.2.2.2.2.1 + 1)).map (zt b sp)) (As := (S.take e'.2.2.2.2.2.1).reverse.map (zt b sp)) (b := b + a) (H := H) (locs := locs) (cells := zN M - n0) (slots := zS M - s0) (R := R) (e := e) (below := below) (meth := meth)
              ⟨hx, hb, hml, hown, hts⟩ hMet2
              (cwV _ hts hGV rfl rfl rfl ⟨rfl, h6⟩ hRm)
              ⟨zPc_blind hX, hrecvH, fun U hU hWm => zPc_of (As := .ref a :: (S.take e'.2.2.2.2.2.1).reverse) hX hC hW hS hU hWm⟩ rfl hAs hsize hst hrest hd hf
            exact fin _ _ hcall
          · have hk2 : kd = 2 := by
              rcases hkd with ⟨h, -⟩ | ⟨h, -⟩ | ⟨h, -⟩
              · exact absurd h hk0
              · exact absurd h hk1
              · exact h
            subst hk2
            have hd : decode cc pc = .ok (.invokespecial idx, 3) := by
              rcases hkd with ⟨h, -⟩ | ⟨h, -⟩ | ⟨-, h⟩
              · cases h
              · cases h
              · exact h
            obtain ⟨hni, hret⟩ := h10 hk
            have hws : (Cond.code e'.1 e'.2.1 e'.2.2.1 e'.2.2.2.1 :: zTs) = Cond.code e'.1 e'.2.1 e'.2.2.1 none :: zTs := by rw [hret]
            have hpre : PreS s H (zPc b sp cy D sc X M (.ref a :: (S.take e'.2.2.2.2.2.1).reverse)) (.ref (b + a) :: (S.take e'.2.2.2.2.2.1).reverse.map (zt b sp)) := ⟨zPc_blind hX, fun U hU hWm => zPc_of (As := .ref a :: (S.take e'.2.2.2.2.2.1).reverse) hX hC hW hS hU hWm⟩
            rcases hlink with hl | ⟨-, hl⟩
            · have hcall := va_runI (own := zRN own) (n := e'.2.2.2.2.2.1) (g := F0 m pc ls (S.map (zt b sp))) (rest := (S.drop (e'.2.2.2.2.2.1 + 1)).map (zt b sp)) (As := (S.take e'.2.2.2.2.2.1).reverse.map (zt b sp)) (b := b + a) (H := H) (locs := locs) (cells := zN M - n0) (slots := zS M - s0) (R := R) (e := e) (below := below) (meth := meth)
                ⟨hx, hb, hml, hown, hts⟩ hMet2
                (cwI _ hts (zgoodIn hm) hws rfl rfl (hts _ (zTs_of h4 rfl)) (hts _ (zTs_of hl rfl)) (hts _ (zTs_of (h8 (by omega)) rfl)) hni h6 hRm)
                hpre rfl hAs hsize hst hrest hd hf
              exact fin _ _ hcall
            · have hnest : va_Nw (.methodLinkNest (zRN own) idx e'.1 "SmokedSecrets") s := hold.2.2.2.2.2.2.1 _ (List.mem_filter.mpr ⟨hl, rfl⟩)
              have hcall := va_runIN (own := zRN own) (host := "SmokedSecrets") (n := e'.2.2.2.2.2.1) (g := F0 m pc ls (S.map (zt b sp))) (rest := (S.drop (e'.2.2.2.2.2.1 + 1)).map (zt b sp)) (As := (S.take e'.2.2.2.2.2.1).reverse.map (zt b sp)) (b := b + a) (H := H) (locs := locs) (cells := zN M - n0) (slots := zS M - s0) (R := R) (e := e) (below := below) (meth := meth)
                ⟨hx, hb, hml, hown, hts⟩ hMet2
                ⟨va_cnB _ hts (zgoodIn hm) hws rfl rfl hnest (hts _ (zTs_of h4 rfl)) h6 hRm, hni, hts _ (zTs_of (h8 (by omega)) rfl)⟩
                hpre rfl hAs hsize hst hrest hd hf
              exact fin _ _ hcall
      · cases hz
    · cases hz
  · split at hz
    · rename_i jd hjd
      split at hz
      · rename_i h9
        subst h9
        split at hz
        · rename_i hk
          obtain ⟨hm1, hgo⟩ := hhp _ _ _ _ hz
          refine ⟨hm1, fun p e R s m args below meth c Q cc nL ini n0 s0 pc L hC hkd hn hR kk => ?_⟩
          have hd : decode cc pc = .ok (.invokestatic idx, 3) := by
            rcases hkd with ⟨-, h⟩ | ⟨h, -⟩ | ⟨h, -⟩
            · exact h
            · rw [hk.1] at h; cases h
            · rw [hk.1] at h; cases h
          exact hgo _ _ _ _ _ _ _ _ _ _ _ _ _ _ _ _ _ _ _ hC hd hjd hn ⟨by omega, by omega, hR.2.2.1, hR.2.2.2⟩ kk
        · cases hz
      · split at hz
        · rename_i hk
          have hm1 := zsp_mono hz
          refine ⟨⟨Nat.le_of_eq hm1.1, Nat.le_of_eq hm1.2⟩, fun p e R s m args below meth c Q cc nL ini n0 s0 pc L hC hkd hn hR kk => ?_⟩
          exact zsp_go hstr hC hkd hjd hk.1 (fun h => by
            rcases hk.2 with h' | h'
            · exact absurd h h'
            · exact ⟨by omega, by omega⟩) hz ⟨by omega, by omega⟩ ⟨hR.2.2.1, hR.2.2.2⟩ kk
        · cases hz
    · cases hz
theorem zcls_0 {i : Instr} {q : Nat} (h : zcls i = (0, q)) : ∀ len, zwf i len = decide (len = 1) := by
  cases i <;> first | (exact fun _ => rfl) | (exact absurd (congrArg Prod.fst h) (by decide)) | (exact absurd (congrArg Prod.fst h) (fun q => Nat.noConfusion q))
theorem zcls_k {i : Instr} {k q : Nat} (h : zcls i = (k + 1, q)) : (k = 0 ∧ i = .invokestatic q) ∨ (k = 1 ∧ i = .invokevirtual q) ∨ (k = 2 ∧ i = .invokespecial q) ∨ k = 3 := by
  cases i <;> first
    | (have h1 : (4 : Nat) = k + 1 := congrArg Prod.fst h
       exact Or.inr (Or.inr (Or.inr (by omega))))
    | (have h1 : (0 : Nat) = k + 1 := congrArg Prod.fst h
       omega)
    | (have h1 : (1 : Nat) = k + 1 := congrArg Prod.fst h
       have h2 := congrArg Prod.snd h
       exact Or.inl ⟨by omega, congrArg Instr.invokestatic h2⟩)
    | (have h1 : (2 : Nat) = k + 1 := congrArg Prod.fst h
       have h2 := congrArg Prod.snd h
       exact Or.inr (Or.inl ⟨by omega, congrArg Instr.invokevirtual h2⟩))
    | (have h1 : (3 : Nat) = k + 1 := congrArg Prod.fst h
       have h2 := congrArg Prod.snd h
       exact Or.inr (Or.inr (Or.inl ⟨by omega, congrArg Instr.invokespecial h2⟩)))
theorem zex_eq {N d : Nat} {cd : zCd} {i : Instr} {len : Nat} (hl : zlk cd.2.2.2 pc = some (i, len)) (hw : zwf i len = true) : zex (N + 1) d sc hp cd pc L S M = (match zcls i with
      | (0, _) => (zret cd.2.2.1 i S).map (fun v => (v, M))
      | (4, _) => (match zst cd.1 cd.2.1 sc pc i L S M with
        | some (pc', L', S', M') => zex N d sc hp cd pc' L' S' M'
        | none => none)
      | (k + 1, idx) => (match d with
        | 0 => none
        | d' + 1 => match zinv d' (fun c L M => zex N d' sc hp c 0 L [] M) hp cd.1 k idx S M with
          | some (S', M') => zex N (d' + 1) sc hp cd (pc + 3) L S' M'
          | none => none)) := by
  conv => lhs; unfold zex
  rw [hl]
  simp only [hw, if_true]
  rfl
theorem zex_some {N d : Nat} {cd : zCd} {r : Option Value × zMem} (h : zex (N + 1) d sc hp cd pc L S M = some r) : ∃ i len, zlk cd.2.2.2 pc = some (i, len) ∧ zwf i len = true := by
  unfold zex at h
  cases hl : zlk cd.2.2.2 pc with
  | none => rw [hl] at h; cases h
  | some q =>
    rw [hl] at h
    by_cases hw : zwf q.1 q.2 = true
    · exact ⟨q.1, q.2, rfl, hw⟩
    · simp only [hw] at h
      cases h
set_option maxHeartbeats 1000000 in
theorem zsnd_all (hX : zXst b X) (hstr : zStr l b sp cy D sc X) (hhp : zHpOK l b sp cy D sc hp X) : ∀ N, zSnd l b sp cy D sc hp X N := by
  intro N
  induction N with
  | zero => intro d cd pc L S M v Mf h; cases h
  | succ N ih =>
    intro d cd pc L S M v Mf h
    obtain ⟨i, len, hlk, hwf⟩ := zex_some h
    rw [zex_eq hlk hwf] at h
    have hmem := zlk_mem hlk
    have hdec9 : ∀ cc : ByteArray, (∀ q ∈ cd.2.2.2, decode cc q.1 = .ok q.2) → decode cc pc = .ok (i, len) := fun cc hdec => hdec (pc, i, len) hmem
    clear hmem hlk
    · · split at h
        · rename_i q hcl
          obtain ⟨v', hv, he⟩ := Option.map_eq_some_iff.mp h
          simp only [Prod.mk.injEq] at he
          obtain ⟨rfl, rfl⟩ := he
          refine ⟨⟨Nat.le_refl _, Nat.le_refl _⟩, fun p e R s m args below meth c Q cc nL n0 s0 hC hdec hn hR hend => ?_⟩
          intro H locs ls hW hS hL
          rw [zcls_0 hcl] at hwf
          have hl := of_decide_eq_true hwf
          subst hl
          exact hend H locs ls pc i S (hdec9 cc hdec) hv hW hS
        · split at h
          · rename_i pc' L' S' M' hst
            have g1 := zst_mono hst
            obtain ⟨f1, f2⟩ := ih _ _ _ _ _ _ _ _ h
            refine ⟨⟨Nat.le_trans g1.1 f1.1, Nat.le_trans g1.2 f1.2⟩, fun p e R s m args below meth c Q cc nL n0 s0 hC hdec hn hR hend => ?_⟩
            exact zst_go hstr hC (hdec9 cc hdec) hwf hst hn ⟨by omega, by omega⟩ (f2 p e R s m args below meth c Q cc nL n0 s0 hC hdec ⟨Nat.le_trans hn.1 g1.1, Nat.le_trans hn.2 g1.2⟩ hR hend)
          · cases h
        · rename_i k idx h4 hcl
          split at h
          · cases h
          · split at h
            · rename_i d' o9 S' M' hr
              obtain ⟨g1, g2⟩ := zinv_go hX hstr hhp ih hr
              obtain ⟨f1, f2⟩ := ih _ _ _ _ _ _ _ _ h
              refine ⟨⟨Nat.le_trans g1.1 f1.1, Nat.le_trans g1.2 f1.2⟩, fun p e R s m args below meth c Q cc nL n0 s0 hC hdec hn hR hend => ?_⟩
              have hd9 := hdec9 cc hdec
              have hkk := f2 p e R s m args below meth c Q cc nL n0 s0 hC hdec ⟨Nat.le_trans hn.1 g1.1, Nat.le_trans hn.2 g1.2⟩ hR hend
              have hRR : d' + 1 ≤ R.frames ∧ 64 * (d' + 1) ≤ R.locals ∧ zN M' - n0 ≤ R.cells ∧ zS M' - s0 ≤ R.slots := ⟨hR.1, hR.2.1, by omega, by omega⟩
              rcases zcls_k hcl with ⟨a1, rfl⟩ | ⟨a1, rfl⟩ | ⟨a1, rfl⟩ | a1
              · have hl : len = 3 := of_decide_eq_true hwf
                subst hl
                exact g2 p e R s m args below meth c Q cc nL _ n0 s0 pc L hC (Or.inl ⟨a1, hd9⟩) hn hRR hkk
              · have hl : len = 3 := of_decide_eq_true hwf
                subst hl
                exact g2 p e R s m args below meth c Q cc nL _ n0 s0 pc L hC (Or.inr (Or.inl ⟨a1, hd9⟩)) hn hRR hkk
              · have hl : len = 3 := of_decide_eq_true hwf
                subst hl
                exact g2 p e R s m args below meth c Q cc nL _ n0 s0 pc L hC (Or.inr (Or.inr ⟨a1, hd9⟩)) hn hRR hkk
              · subst a1
                exact absurd rfl h4
            · cases h
end ZF
