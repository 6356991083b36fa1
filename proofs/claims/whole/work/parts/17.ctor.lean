/-! ===== the constructors: run once by the kernel ===== -/
theorem zst_sc {own pc : Nat} {ini : Bool} {sc sc' : zSc} {i : Instr} {L : List (Option Value)} {S : List Value} {M : zMem} (h : own ≠ 13) : zst own ini sc pc i L S M = zst own ini sc' pc i L S M := by
  cases i <;> first
    | rfl
    | (simp only [zst]
       split <;> first
         | rfl
         | simp [h])
theorem zMt_own : ∀ r ∈ zMtl, ∀ e ∈ r, e.2.2.2.2.1 ≠ 13 := by decide +kernel
theorem zMt_own' {k : Nat} {e : zE_} (h : zMt k = some e) : e.2.2.2.2.1 ≠ 13 := by
  obtain ⟨r, h1, h2⟩ := Option.bind_eq_some_iff.mp h
  exact zMt_own r (List.mem_of_getElem? h1) e (List.mem_of_getElem? h2)
theorem zcalle_own {own idx kd : Nat} {e : zE_} (h : zcalle own idx kd = some e) : e.2.2.2.2.1 ≠ 13 := by
  unfold zcalle at h
  split at h
  · exact zMt_own' h
  · split at h
    · obtain ⟨k, -, h3⟩ := Option.bind_eq_some_iff.mp h
      exact zMt_own' h3
    · cases h
theorem zXlaw {own idx : Nat} (h : zX own idx = some 1009) : own = 13 := by
  obtain ⟨r, h1, h2⟩ := Option.bind_eq_some_iff.mp h
  have h3 := zlk_mem h2
  have h4 : ∀ n, n < 15 → n ≠ 13 → ∀ r, zX_all[n]? = some r → ∀ q ∈ r, q.2 ≠ 1009 := by
    intro n hn hne r hr
    have : ((zX_all[n]?).getD []).all (fun q => decide (q.2 ≠ 1009)) = true := (by decide +kernel : ∀ n, n < 15 → n ≠ 13 → ((zX_all[n]?).getD []).all (fun q => decide (q.2 ≠ 1009)) = true) n hn hne
    rw [hr] at this
    intro q hq
    exact of_decide_eq_true (List.all_eq_true.mp this q hq)
  by_cases e : own = 13
  · exact e
  · have hlt : own < 15 := (List.getElem?_eq_some_iff.mp h1).1
    exact absurd rfl (h4 own hlt e r h1 _ h3)
theorem zex_ind {sc sc' : zSc} {hp hp' : zHp} : ∀ {N d : Nat} {cd : zCd} {pc : Nat} {L : List (Option Value)} {S : List Value} {M : zMem} {r : Option Value × zMem}, cd.1 ≠ 13 → zex N d sc hp cd pc L S M = some r → zex N d sc' hp' cd pc L S M = some r := by
  intro N
  induction N with
  | zero => intro d cd pc L S M r hc h; cases h
  | succ N ih =>
    intro d cd pc L S M r hc h
    obtain ⟨i, len, hlk, hwf⟩ := zex_some h
    rw [zex_eq hlk hwf] at h ⊢
    split at h
    · exact h
    · split at h
      · rename_i pc' L' S' M' hst
        rw [zst_sc (sc' := sc') hc] at hst
        simp only [hst]
        exact ih hc h
      · cases h
    · rename_i k idx h4 hcl
      split at h
      · cases h
      · split at h
        · rename_i d' o9 S' M' hr
          have h2 : zinv d' (fun c L M => zex N d' sc' hp' c 0 L [] M) hp' cd.1 k idx S M = some (S', M') := by
            unfold zinv at hr ⊢
            split at hr
            · rename_i e he
              split at hr
              · rename_i hok
                rw [if_pos hok]
                split at hr
                · rename_i v M1 h1
                  have h1 : zex N d' sc hp (zcd e) 0 (zent (List.take (zna e k) S).reverse e.2.2.1) [] M = some (v, M1) := h1
                  have h2 := ih (zcalle_own he) h1
                  simp only [h2]
                  exact hr
                · cases hr
              · cases hr
            · split at hr
              · rename_i jd hjd
                split at hr
                · rename_i h9
                  subst h9
                  exact absurd (zXlaw hjd) hc
                · rename_i h9
                  rw [if_neg h9]
                  exact hr
              · cases hr
          simp only [h2]
          exact ih hc h
        · cases h
/-- arrays of numbers hold 0 alone, rows of references none behind their ends -/
def zPz (M : zMem) : Prop := ∀ a, 13 ≤ (zK M a).1 → (∀ j, zI M a j = 0) ∧ (∀ j, zJ M a j = 0) ∧ (∀ j, (zK M a).2 ≤ j → zR M a j = none)
theorem zPz_new {M : zMem} (h : zPz M) (kd len sl : Nat) : zPz (znew M kd len sl) := by
  intro a ha
  by_cases e : a = zN M
  · subst e
    refine ⟨fun j => ?_, fun j => ?_, fun j _ => ?_⟩
    · exact congrFun (znew_I M kd len sl) j
    · exact congrFun (znew_J M kd len sl) j
    · exact congrFun (znew_R M kd len sl) j
  · have hk : zK (znew M kd len sl) a = zK M a := by show (if a = M.1.1 then _ else _) = _; rw [if_neg e]
    rw [hk] at ha ⊢
    obtain ⟨h1, h2, h3⟩ := h a ha
    exact ⟨fun j => (congrFun (zrow_ne (g := fun _ => 0) e) j).trans (h1 j), fun j => (congrFun (zrow_ne (g := fun _ => 0) e) j).trans (h2 j), fun j hj => (congrFun (zrow_ne (g := fun _ => none) e) j).trans (h3 j hj)⟩
theorem zPz_set {M M' : zMem} {c a k : Nat} {v : Value} (h : zPz M) (hc : (zK M a).1 = c) (hc13 : c < 13) (hz : zset M c a k v = some M') : zPz M' := by
  intro x hx
  unfold zset at hz
  split at hz
  · cases hz
    have hx' : 13 ≤ (zK M x).1 := hx
    have e : x ≠ a := by intro e; subst e; omega
    obtain ⟨h1, h2, h3⟩ := h x hx'
    exact ⟨fun j => (congrFun (zup_ne e) j).trans (h1 j), h2, h3⟩
  · cases hz
    have hx' : 13 ≤ (zK M x).1 := hx
    have e : x ≠ a := by intro e; subst e; omega
    obtain ⟨h1, h2, h3⟩ := h x hx'
    exact ⟨h1, fun j => (congrFun (zup_ne e) j).trans (h2 j), h3⟩
  · cases hz
    have hx' : 13 ≤ (zK M x).1 := hx
    have e : x ≠ a := by intro e; subst e; omega
    obtain ⟨h1, h2, h3⟩ := h x hx'
    exact ⟨h1, h2, fun j hj => (congrFun (zup_ne e) j).trans (h3 j hj)⟩
  · cases hz
    have hx' : 13 ≤ (zK M x).1 := hx
    have e : x ≠ a := by intro e; subst e; omega
    obtain ⟨h1, h2, h3⟩ := h x hx'
    exact ⟨h1, h2, fun j hj => (congrFun (zup_ne e) j).trans (h3 j hj)⟩
  · split at hz
    · cases hz
      have hx' : 13 ≤ (zK M x).1 := hx
      have e : x ≠ a := by intro e; subst e; omega
      obtain ⟨h1, h2, h3⟩ := h x hx'
      exact ⟨fun j => (congrFun (zup_ne e) j).trans (h1 j), h2, h3⟩
    · cases hz
  · cases hz
theorem zPz_setR {M : zMem} {a kd : Nat} {j : Int32} {v : Option Nat} (h : zPz M) (hi : zin M a kd j = true) : zPz (zsetR M a j.toNatClampNeg v) := by
  intro x hx
  obtain ⟨h1, h2, h3⟩ := h x hx
  refine ⟨h1, h2, fun i hi2 => ?_⟩
  obtain ⟨-, g⟩ := zin_spec hi
  by_cases e : x = a
  · subst e
    have hlt : j.toNatClampNeg < (zK M x).2 := Nat.not_le.mp fun q => g (Or.inr q)
    have hi3 : (zK M x).2 ≤ i := hi2
    show zup M.2.2.1 x j.toNatClampNeg v x i = none
    unfold zup
    rw [if_pos rfl, if_neg (by omega)]
    exact h3 i hi3
  · exact (congrFun (zup_ne e) i).trans (h3 i hi2)
def zNoSt (i : Instr) : Bool := match i with
  | .iastore | .bastore | .lastore | .invokevirtual _ | .invokestatic _ => false
  | _ => true
theorem zPz_of {pc' : Nat} {L' : List (Option Value)} {S' : List Value} {M' M1 : zMem} {a : Nat} {L1 : List (Option Value)} {S1 : List Value} (h : (some (a, L1, S1, M1) : Option zSt) = some (pc', L', S', M')) (h1 : zPz M1) : zPz M' := by
  simp only [Option.some.injEq, Prod.mk.injEq] at h
  obtain ⟨-, -, -, rfl⟩ := h
  exact h1
theorem zPz_map {pc' : Nat} {L' : List (Option Value)} {S' : List Value} {M M' : zMem} {o : Option Nat} {L1 : List (Option Value)} {S1 : List Value} (h : o.map (fun t => (t, L1, S1, M)) = some (pc', L', S', M')) (h1 : zPz M) : zPz M' := by
  obtain ⟨t, -, he⟩ := Option.map_eq_some_iff.mp h
  simp only [Prod.mk.injEq] at he
  obtain ⟨-, -, -, rfl⟩ := he
  exact h1
theorem zPz_bind {α : Type} {pc' : Nat} {L' : List (Option Value)} {S' : List Value} {M M' : zMem} {o : Option α} {f : α → Option Nat} {L1 : List (Option Value)} {S1 : List Value} (h : o.bind (fun x => (f x).map (fun t => (t, L1, S1, M))) = some (pc', L', S', M')) (h1 : zPz M) : zPz M' := by
  obtain ⟨x, -, h⟩ := Option.bind_eq_some_iff.mp h
  exact zPz_map h h1
set_option maxHeartbeats 4000000 in
theorem zst_Pz {own pc pc' : Nat} {ini : Bool} {sc : zSc} {i : Instr} {L L' : List (Option Value)} {S S' : List Value} {M M' : zMem} (hn : zNoSt i = true) (h : zPz M) (hz : zst own ini sc pc i L S M = some (pc', L', S', M')) : zPz M' := by
  cases i
  case putfield idx =>
    simp only [zst] at hz
    split at hz
    · rename_i c k v a r hF
      split at hz
      · rename_i h1
        rw [Bool.and_eq_true] at h1
        obtain ⟨Mx, hM, he⟩ := Option.map_eq_some_iff.mp hz
        simp only [Prod.mk.injEq] at he
        obtain ⟨-, -, -, rfl⟩ := he
        exact zPz_set h (zisO_spec h1.1) (zF_ok hF).2.1 hM
      · cases hz
    · cases hz
  case aastore =>
    simp only [zst] at hz
    split at hz
    · split at hz
      · rename_i h1
        simp only [Option.some.injEq, Prod.mk.injEq] at hz
        obtain ⟨-, -, -, rfl⟩ := hz
        rw [Bool.or_eq_true, Bool.and_eq_true, Bool.and_eq_true] at h1
        rcases h1 with h1 | h1
        · exact zPz_setR h h1.1
        · exact zPz_setR h h1.1
      · cases hz
    · cases hz
  all_goals first
    | exact Option.noConfusion (show (none : Option zSt) = some _ from hz)
    | exact zPz_of hz h
    | exact zPz_map hz h
    | (simp only [zst, zi1, zi2, zid, zl2, zldn, zlsh, zil, zll, zal, zis, zls, zas] at hz
       repeat' (split at hz)
       all_goals first
         | (cases hz; done)
         | exact zPz_of hz h
         | exact zPz_map hz h
         | exact zPz_bind hz h
         | exact zPz_of hz (zPz_new h _ _ _)
         | (cases hn; done))
theorem zMt_ini : ∀ r ∈ zMtl, ∀ e ∈ r, e.2.2.2.2.2.2.1 = 2 → e.2.2.2.2.2.2.2.all (fun q => zNoSt q.2.1) = true := by decide +kernel
theorem zex_Pz {sc : zSc} {hp : zHp} : ∀ {N d : Nat} {cd : zCd} {pc : Nat} {L : List (Option Value)} {S : List Value} {M M' : zMem} {v : Option Value}, cd.2.2.2.all (fun q => zNoSt q.2.1) = true → zPz M → zex N d sc hp cd pc L S M = some (v, M') → zPz M' := by
  intro N
  induction N with
  | zero => intro d cd pc L S M M' v hc hM h; cases h
  | succ N ih =>
    intro d cd pc L S M M' v hc hM h
    obtain ⟨i, len, hlk, hwf⟩ := zex_some h
    have hn : zNoSt i = true := List.all_eq_true.mp hc (pc, i, len) (zlk_mem hlk)
    rw [zex_eq hlk hwf] at h
    split at h
    · obtain ⟨v', -, he⟩ := Option.map_eq_some_iff.mp h
      simp only [Prod.mk.injEq] at he
      obtain ⟨-, rfl⟩ := he
      exact hM
    · split at h
      · rename_i pc' L' S' M1 hst
        exact ih hc (zst_Pz hn hM hst) h
      · cases h
    · rename_i k idx h4 hcl
      split at h
      · cases h
      · split at h
        · rename_i d' o9 S' M1 hr
          refine ih hc ?_ h
          have hk2 : k = 2 := by
            rcases zcls_k hcl with ⟨-, rfl⟩ | ⟨-, rfl⟩ | ⟨a1, -⟩ | a1
            · cases hn
            · cases hn
            · exact a1
            · exact absurd a1 h4
          subst hk2
          unfold zinv at hr
          split at hr
          · rename_i e he
            split at hr
            · rename_i hok
              split at hr
              · rename_i v1 M2 h1
                simp only [Option.some.injEq, Prod.mk.injEq] at hr
                obtain ⟨-, rfl⟩ := hr
                have hkd : e.2.2.2.2.2.2.1 = 2 := by
                  unfold zokc at hok
                  simp only [Bool.and_eq_true, decide_eq_true_eq] at hok
                  exact hok.1
                have hall : e.2.2.2.2.2.2.2.all (fun q => zNoSt q.2.1) = true := by
                  unfold zcalle at he
                  split at he
                  · obtain ⟨r, h5, h6⟩ := Option.bind_eq_some_iff.mp he
                    exact zMt_ini r (List.mem_of_getElem? h5) e (List.mem_of_getElem? h6) hkd
                  · split at he
                    · obtain ⟨k9, -, he⟩ := Option.bind_eq_some_iff.mp he
                      obtain ⟨r, h5, h6⟩ := Option.bind_eq_some_iff.mp he
                      exact zMt_ini r (List.mem_of_getElem? h5) e (List.mem_of_getElem? h6) hkd
                    · cases he
                exact ih (cd := zcd e) hall hM h1
              · cases hr
            · cases hr
          · split at hr
            · rename_i jd hjd
              split at hr
              · split at hr
                · rename_i q
                  exact absurd q.1 (by decide)
                · cases hr
              · split at hr
                · rename_i q
                  have hj : jd = 1000 := by
                    have := q.1
                    unfold zxk at this
                    split at this
                    · assumption
                    · split at this <;> cases this
                  subst hj
                  unfold zsp at hr
                  split at hr <;> first
                    | (cases hr; done)
                    | (split at hr
                       · simp only [Option.some.injEq, Prod.mk.injEq] at hr
                         obtain ⟨-, rfl⟩ := hr
                         exact hM
                       · cases hr)
                    | (rename_i q9 _; exact absurd q9 (by decide))
                    | (rename_i q9; exact absurd q9 (by decide))
                · cases hr
            · cases hr
        · cases h
def zM00 : zMem := ((0, 0), (fun _ => (99, 0)), (fun _ _ => none), (fun _ _ => 0), (fun _ _ => 0))
def zhp0 : zHp := fun _ _ => none
def zsc0 : zSc := (0, fun _ => 0)
