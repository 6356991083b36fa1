/-! ===== rows for the decompiled functions ===== -/
def zFu : Nat := 1000000
/-- the fuel of recursions: levels -/
def zDp : Nat := 24
def imod (x y : Int32) : Int32 := x - x / y * y
def lmod (x y : Int64) : Int64 := x - x / y * y
def iushr (x y : Int32) : Int32 := (x.toUInt32 >>> (y.toUInt32 &&& Int32.toUInt32 31)).toInt32
def lushr (x : Int64) (y : Int32) : Int64 := (x.toUInt64 >>> (y.toInt64.toUInt64 &&& Int64.toUInt64 63)).toInt64
def lshl (x : Int64) (y : Int32) : Int64 := x <<< (y.toInt64 &&& 63)
def i2ch (x : Int32) : Int32 := (x.toUInt32 % 65536).toInt32
def imin (x y : Int32) : Int32 := if y < x then y else x
def imax (x y : Int32) : Int32 := if x < y then y else x
def iabs (x : Int32) : Int32 := if 0 ≤ x then x else 0 - x
def lmin (x y : Int64) : Int64 := if y < x then y else x
def lmax (x y : Int64) : Int64 := if y < x then x else y
abbrev zO {β : Type} (o : Option Nat) (c : Nat) (k : Nat → Option β) : Option β := match o with
  | some a => if (zK0 a).1 = c then k a else none
  | none => none
theorem zO_of {β : Type} {o : Option Nat} {c : Nat} {k : Nat → Option β} {r : β} (h : zO o c k = some r) : ∃ a, o = some a ∧ (zK0 a).1 = c ∧ k a = some r := by
  cases o with
  | none => cases h
  | some a =>
    have h : (if (zK0 a).1 = c then k a else none) = some r := h
    by_cases hc : (zK0 a).1 = c
    · rw [if_pos hc] at h
      exact ⟨a, rfl, hc, h⟩
    · rw [if_neg hc] at h
      cases h
abbrev zNu {β : Type} (o : Option Nat) (kn : β) (ks : Nat → β) : β := match o with
  | none => kn
  | some a => ks a
section ZR
variable {d : Nat} {sc : zSc} {hp : zHp} {cd : zCd} {pc pc' : Nat} {L L' : List (Option Value)} {S S' : List Value} {M M' : zMem} {r : Option Value × zMem} {g : zSg}
theorem g_icmp {c : Jvm.ClassFile.Cond} {off : Int} {t : Nat} {x y : Int32} (P : Prop) [Decidable P] (hl : zlk cd.2.2.2 pc = some (.if_icmp c off, 3)) (ht : zjmp pc off = some t) (hP : zcmp c x y = decide P) (kt : P → zG d sc hp cd t L S M r) (kf : ¬ P → zG d sc hp cd (pc + 3) L S M r) : zG d sc hp cd pc L (.int y :: .int x :: S) M r := by
  by_cases h : P
  · refine g_st hl rfl rfl (pc' := t) (L' := L) (S' := S) (M' := M) ?_ (kt h)
    unfold zst
    simp only [ht, hP, decide_eq_true h, if_true]
  · refine g_st hl rfl rfl (pc' := pc + 3) (L' := L) (S' := S) (M' := M) ?_ (kf h)
    unfold zst
    simp only [ht, hP, decide_eq_false h]
    rfl
theorem g_if {c : Jvm.ClassFile.Cond} {off : Int} {t : Nat} {x : Int32} (P : Prop) [Decidable P] (hl : zlk cd.2.2.2 pc = some (.ifCond c off, 3)) (ht : zjmp pc off = some t) (hP : zcmp c x 0 = decide P) (kt : P → zG d sc hp cd t L S M r) (kf : ¬ P → zG d sc hp cd (pc + 3) L S M r) : zG d sc hp cd pc L (.int x :: S) M r := by
  by_cases h : P
  · refine g_st hl rfl rfl (pc' := t) (L' := L) (S' := S) (M' := M) ?_ (kt h)
    unfold zst
    simp only [ht, hP, decide_eq_true h, if_true]
  · refine g_st hl rfl rfl (pc' := pc + 3) (L' := L) (S' := S) (M' := M) ?_ (kf h)
    unfold zst
    simp only [ht, hP, decide_eq_false h]
    rfl
theorem g_swc {i : Instr} {len : Nat} {x c : Int32} (hc : x = c) (hl : zlk cd.2.2.2 pc = some (i, len)) (hw : zwf i len = true) (hcl : zcls i = (4, 0)) (hz : zst cd.1 cd.2.1 sc pc i L (.int c :: S) M = some (pc', L, S, M)) (k : zG d sc hp cd pc' L S M r) : zG d sc hp cd pc L (.int x :: S) M r := by
  subst hc
  exact g_st hl hw hcl hz k
theorem g_tsd {df lo hi : Int} {offs : Array Int} {len t : Nat} {x : Int32} (hl : zlk cd.2.2.2 pc = some (.tableswitch df lo hi offs, len)) (hx : x.toInt < lo ∨ hi < x.toInt) (ht : zjmp pc df = some t) (k : zG d sc hp cd t L S M r) : zG d sc hp cd pc L (.int x :: S) M r := by
  refine g_st hl rfl rfl (pc' := t) (L' := L) (S' := S) (M' := M) ?_ k
  unfold zst
  simp only [hx, if_true, ht]
  rfl
theorem g_lsd {df off : Int} {ps : Array (Int × Int)} {len t : Nat} {x : Int32} (hl : zlk cd.2.2.2 pc = some (.lookupswitch df ps, len)) (hs : (ps.toList.zip (ps.toList.drop 1)).all (fun (a, next) => a.1 < next.1) = true) (ho : Op.lookupswitch.offset ps.toList df x.toInt = off) (ht : zjmp pc off = some t) (k : zG d sc hp cd t L S M r) : zG d sc hp cd pc L (.int x :: S) M r := by
  refine g_st hl rfl rfl (pc' := t) (L' := L) (S' := S) (M' := M) ?_ k
  unfold zst
  simp only [ho, ht]
  rw [if_pos hs]
  rfl
theorem g_getf {idx ci k a : Nat} {v : Value} (hl : zlk cd.2.2.2 pc = some (.getfield idx, 3)) (hF : zF cd.1 idx = some (ci, k)) (hK : (zK0 a).1 = ci) (hv : zfv (gm g) ci a k = v) (kk : zG d sc hp cd (pc + 3) L (v :: S) (gm g) r) : zG d sc hp cd pc L (.ref a :: S) (gm g) r := by
  refine g_st hl rfl rfl (pc' := pc + 3) (L' := L) (S' := v :: S) (M' := gm g) ?_ kk
  unfold zst
  simp only [hF]
  rw [if_pos (show zisO (gm g) a ci = true from decide_eq_true hK), hv]
theorem g_putf {idx ci k a : Nat} {v : Value} {g' : zSg} (hl : zlk cd.2.2.2 pc = some (.putfield idx, 3)) (hF : zF cd.1 idx = some (ci, k)) (hK : (zK0 a).1 = ci) (hfin : ((zFd ci k).map Prod.snd).getD false = false) (hv : zset (gm g) ci a k v = some (gm g')) (kk : zG d sc hp cd (pc + 3) L S (gm g') r) : zG d sc hp cd pc L (v :: .ref a :: S) (gm g) r := by
  refine g_st hl rfl rfl (pc' := pc + 3) (L' := L) (S' := S) (M' := gm g') ?_ kk
  unfold zst
  have hO : zisO (gm g) a ci = true := decide_eq_true hK
  simp only [hF, hfin, hO, Bool.not_false, Bool.true_or, Bool.and_self, if_true]
  rw [hv]
  rfl
theorem g_alen {a : Nat} (hl : zlk cd.2.2.2 pc = some (.arraylength, 1)) (hK : 13 ≤ (zK0 a).1 ∧ (zK0 a).1 ≤ 17) (kk : zG d sc hp cd (pc + 1) L (.int (Int32.ofNat (zK0 a).2) :: S) (gm g) r) : zG d sc hp cd pc L (.ref a :: S) (gm g) r := by
  refine g_st hl rfl rfl (pc' := pc + 1) (L' := L) (S' := .int (Int32.ofNat (zK0 a).2) :: S) (M' := gm g) ?_ kk
  unfold zst
  exact if_pos hK
theorem g_zin {a kd : Nat} {j : Int32} (hK : (zK0 a).1 = kd) (hi : zib j (zK0 a).2 = true) : zin (gm g) a kd j = true := by
  unfold zin
  rw [Bool.and_eq_true]
  exact ⟨decide_eq_true hK, hi⟩
theorem g_iald {a : Nat} {j : Int32} (hl : zlk cd.2.2.2 pc = some (.iaload, 1)) (hK : (zK0 a).1 = 13) (hi : zib j (zK0 a).2 = true) (kk : zG d sc hp cd (pc + 1) L (.int (gI g a (ix j)) :: S) (gm g) r) : zG d sc hp cd pc L (.int j :: .ref a :: S) (gm g) r := by
  refine g_st hl rfl rfl (pc' := pc + 1) (L' := L) (S' := .int (gI g a (ix j)) :: S) (M' := gm g) ?_ kk
  exact if_pos (g_zin hK hi)
theorem g_bald {a : Nat} {j : Int32} (hl : zlk cd.2.2.2 pc = some (.baload, 1)) (hK : (zK0 a).1 = 14) (hi : zib j (zK0 a).2 = true) (kk : zG d sc hp cd (pc + 1) L (.int (gI g a (ix j)) :: S) (gm g) r) : zG d sc hp cd pc L (.int j :: .ref a :: S) (gm g) r := by
  refine g_st hl rfl rfl (pc' := pc + 1) (L' := L) (S' := .int (gI g a (ix j)) :: S) (M' := gm g) ?_ kk
  exact if_pos (g_zin hK hi)
theorem g_aald {a : Nat} {j : Int32} (hl : zlk cd.2.2.2 pc = some (.aaload, 1)) (hK : (zK0 a).1 = 15 ∨ (zK0 a).1 = 16) (hi : zib j (zK0 a).2 = true) (kk : zG d sc hp cd (pc + 1) L (zrv (zR0 g.2.2.2 a (ix j)) :: S) (gm g) r) : zG d sc hp cd pc L (.int j :: .ref a :: S) (gm g) r := by
  refine g_st hl rfl rfl (pc' := pc + 1) (L' := L) (S' := zrv (zR0 g.2.2.2 a (ix j)) :: S) (M' := gm g) ?_ kk
  refine if_pos ?_
  rw [Bool.or_eq_true]
  rcases hK with h | h
  · exact Or.inl (g_zin h hi)
  · exact Or.inr (g_zin h hi)
theorem g_iast {a : Nat} {j x : Int32} (hl : zlk cd.2.2.2 pc = some (.iastore, 1)) (hK : (zK0 a).1 = 13) (hi : zib j (zK0 a).2 = true) (kk : zG d sc hp cd (pc + 1) L S (gm (gsI g a (ix j) x)) r) : zG d sc hp cd pc L (.int x :: .int j :: .ref a :: S) (gm g) r := by
  refine g_st hl rfl rfl (pc' := pc + 1) (L' := L) (S' := S) (M' := gm (gsI g a (ix j) x)) ?_ kk
  exact if_pos (g_zin hK hi)
theorem g_bast {a : Nat} {j x : Int32} (hl : zlk cd.2.2.2 pc = some (.bastore, 1)) (hK : (zK0 a).1 = 14) (hi : zib j (zK0 a).2 = true) (hx : x = 0 ∨ x = 1) (kk : zG d sc hp cd (pc + 1) L S (gm (gsI g a (ix j) x)) r) : zG d sc hp cd pc L (.int x :: .int j :: .ref a :: S) (gm g) r := by
  refine g_st hl rfl rfl (pc' := pc + 1) (L' := L) (S' := S) (M' := gm (gsI g a (ix j) x)) ?_ kk
  exact if_pos (by rw [Bool.and_eq_true]; exact ⟨g_zin hK hi, decide_eq_true hx⟩)
/-- the table ITEM -/
theorem g_item {j : Int32} (hl : zlk cd.2.2.2 pc = some (.iaload, 1)) (hi : zib j 48 = true) (kk : zG d sc hp cd (pc + 1) L (.int (zitem (ix j)) :: S) M r) : zG d sc hp cd pc L (.int j :: .float 1 :: S) M r := by
  refine g_st hl rfl rfl (pc' := pc + 1) (L' := L) (S' := .int (zitem (ix j)) :: S) (M' := M) ?_ kk
  have h : ¬ (zout j 48 = true) := by
    have := of_decide_eq_true hi
    unfold zout
    simpa using this
  show (if (1 : UInt32) = 0 ∧ cd.1 = 13 then (if zout j sc.1 then none else some (pc + 1, L, .int (sc.2 j.toNatClampNeg) :: S, M)) else if (1 : UInt32) = 1 then (if zout j 48 then none else some (pc + 1, L, .int (zitem j.toNatClampNeg) :: S, M)) else none : Option zSt) = _
  rw [if_neg (fun q => absurd q.1 (by decide)), if_pos rfl, if_neg h]
theorem g_div {x y : Int32} (hl : zlk cd.2.2.2 pc = some (.idiv, 1)) (h0 : ¬ y = 0) (kk : zG d sc hp cd (pc + 1) L (.int (x / y) :: S) M r) : zG d sc hp cd pc L (.int y :: .int x :: S) M r :=
  g_st hl rfl rfl (pc' := pc + 1) (L' := L) (S' := .int (x / y) :: S) (M' := M) (if_neg h0) kk
theorem g_rem {x y : Int32} (hl : zlk cd.2.2.2 pc = some (.irem, 1)) (h0 : ¬ y = 0) (kk : zG d sc hp cd (pc + 1) L (.int (imod x y) :: S) M r) : zG d sc hp cd pc L (.int y :: .int x :: S) M r :=
  g_st hl rfl rfl (pc' := pc + 1) (L' := L) (S' := .int (imod x y) :: S) (M' := M) (if_neg h0) kk
theorem g_ldiv {x y : Int64} (hl : zlk cd.2.2.2 pc = some (.ldiv, 1)) (h0 : ¬ y = 0) (kk : zG d sc hp cd (pc + 1) L (.long (x / y) :: S) M r) : zG d sc hp cd pc L (.long y :: .long x :: S) M r :=
  g_st hl rfl rfl (pc' := pc + 1) (L' := L) (S' := .long (x / y) :: S) (M' := M) (if_neg h0) kk
theorem g_lrem {x y : Int64} (hl : zlk cd.2.2.2 pc = some (.lrem, 1)) (h0 : ¬ y = 0) (kk : zG d sc hp cd (pc + 1) L (.long (lmod x y) :: S) M r) : zG d sc hp cd pc L (.long y :: .long x :: S) M r :=
  g_st hl rfl rfl (pc' := pc + 1) (L' := L) (S' := .long (lmod x y) :: S) (M' := M) (if_neg h0) kk
theorem g_retz {v : Int32} (hl : zlk cd.2.2.2 pc = some (.ireturn, 1)) (hr : cd.2.2.1 = some .boolean) (hv : v = 0 ∨ v = 1) : zG d sc hp cd pc L [.int v] M (some (.int v), M) := by
  refine g_ret hl rfl rfl ?_
  rw [hr]
  exact if_pos hv
theorem g_reto {v : Option Nat} {C : String} (hl : zlk cd.2.2.2 pc = some (.areturn, 1)) (hr : cd.2.2.1 = some (.object C)) : zG d sc hp cd pc L [zrv v] M (some (zrv v), M) := by
  refine g_ret hl rfl rfl ?_
  rw [hr]
  cases v <;> rfl
theorem g_aloadn {i : Fin 4} {v : Option Nat} (hl : zlk cd.2.2.2 pc = some (.aload_n i, 1)) (hv : zld L i = some (zrv v)) (kk : zG d sc hp cd (pc + 1) L (zrv v :: S) M r) : zG d sc hp cd pc L S M r := by
  refine g_st hl rfl rfl (pc' := pc + 1) (L' := L) (S' := zrv v :: S) (M' := M) ?_ kk
  show zal _ _ _ _ _ = _
  unfold zal
  rw [hv]
  cases v <;> rfl
theorem g_aload {i : Nat} {v : Option Nat} (hl : zlk cd.2.2.2 pc = some (.aload i, 2)) (hv : zld L i = some (zrv v)) (kk : zG d sc hp cd (pc + 2) L (zrv v :: S) M r) : zG d sc hp cd pc L S M r := by
  refine g_st hl rfl rfl (pc' := pc + 2) (L' := L) (S' := zrv v :: S) (M' := M) ?_ kk
  show zal _ _ _ _ _ = _
  unfold zal
  rw [hv]
  cases v <;> rfl
theorem g_astoren {i : Fin 4} {v : Option Nat} (hl : zlk cd.2.2.2 pc = some (.astore_n i, 1)) (hi : (i : Nat) < L.length) (hL : zst1 L i (zrv v) = L') (kk : zG d sc hp cd (pc + 1) L' S M r) : zG d sc hp cd pc L (zrv v :: S) M r := by
  refine g_st hl rfl rfl (pc' := pc + 1) (L' := L') (S' := S) (M' := M) ?_ kk
  show zas _ _ _ _ _ = _
  unfold zas
  subst hL
  cases v <;> exact if_pos hi
theorem g_astore {i : Nat} {v : Option Nat} (hl : zlk cd.2.2.2 pc = some (.astore i, 2)) (hi : i < L.length) (hL : zst1 L i (zrv v) = L') (kk : zG d sc hp cd (pc + 2) L' S M r) : zG d sc hp cd pc L (zrv v :: S) M r := by
  refine g_st hl rfl rfl (pc' := pc + 2) (L' := L') (S' := S) (M' := M) ?_ kk
  show zas _ _ _ _ _ = _
  unfold zas
  subst hL
  cases v <;> exact if_pos hi
theorem g_copy {idx a a1 : Nat} {sp1 dp n : Int32} {d' : Nat} (hl : zlk cd.2.2.2 pc = some (.invokestatic idx, 3)) (he : zcalle cd.1 idx 0 = none) (hx : zX cd.1 idx = some 1008) (hd : d = d' + 1) (hcat : zcat S ≤ 8) (hK : (zK0 a).1 = 13) (hK1 : (zK0 a1).1 = 13)
    (hg : ¬ sp1 < 0 ∧ ¬ dp < 0 ∧ ¬ n < 0 ∧ sp1.toNatClampNeg + n.toNatClampNeg ≤ (zK0 a).2 ∧ dp.toNatClampNeg + n.toNatClampNeg ≤ (zK0 a1).2) (kk : zG d sc hp cd (pc + 3) L S (gm (gsRow g a1 (va_cpy (gI g a) (gI g a1) (ix sp1) (ix dp) (ix n)))) r) : zG d sc hp cd pc L (.int n :: .int dp :: .ref a1 :: .int sp1 :: .ref a :: S) (gm g) r := by
  refine g_spec (kd := 0) hl rfl rfl (by decide) he hx (by decide) rfl (Or.inl (by decide)) (S' := S) (M' := gm (gsRow g a1 (va_cpy (gI g a) (gI g a1) (ix sp1) (ix dp) (ix n)))) ?_ hd kk
  exact if_pos ⟨hcat, decide_eq_true hK, decide_eq_true hK1, hg⟩
theorem g_recv {e : zE_} {a : Nat} {S : List Value} (h1 : e.2.2.2.2.2.2.1 = 1) (h2 : zna e 1 ≤ S.length) (h3 : zcat (S.drop (zna e 1)) ≤ 8) (h4 : (zent0 (S.take (zna e 1)).reverse).length ≤ e.2.2.1) (h5 : e.2.2.1 ≤ 40) (h6 : S[zna e 1 - 1]? = some (.ref a)) (h7 : (zK0 a).1 = e.2.2.2.2.1) (h8 : e.2.2.2.2.1 < 13) : zokc e 1 S (gm g) = true := by
  unfold zokc zrecv
  simp only [h6, Bool.and_eq_true, decide_eq_true_eq]
  exact ⟨h1, h2, h3, h4, h5, decide_eq_true h7, h8⟩
end ZR
theorem zK0_r {a : Nat} (h : (zK0 a).1 = 7) : (zK0 (a + 1)).1 = 13 := by
  have h1 : ∀ a, a < 554 → (zK0 a).1 = 7 → (zK0 (a + 1)).1 = 13 := by decide +kernel
  by_cases q : a < 576
  · exact (by decide +kernel : ∀ a, a < 576 → (zK0 a).1 = 7 → (zK0 (a + 1)).1 = 13) a q h
  · have : zk0l[a / 24]? = none := List.getElem?_eq_none (by show 24 ≤ a / 24; omega)
    unfold zK0 at h
    rw [this] at h
    cases h
theorem zK0_big {a : Nat} (q : ¬ a < 576) : zK0 a = (99, 0) := by
  have : zk0l[a / 24]? = none := List.getElem?_eq_none (by show 24 ≤ a / 24; omega)
  unfold zK0
  rw [this]
theorem zK0_s {a : Nat} (h : (zK0 a).1 = 8) : (zK0 (a + 1)).1 = 7 ∧ (zK0 (a + 3)).1 = 7 ∧ (zK0 (a + 5)).1 = 7 ∧ (zK0 (a + 7)).1 = 7 := by
  by_cases q : a < 576
  · exact (by decide +kernel : ∀ a, a < 576 → (zK0 a).1 = 8 → (zK0 (a + 1)).1 = 7 ∧ (zK0 (a + 3)).1 = 7 ∧ (zK0 (a + 5)).1 = 7 ∧ (zK0 (a + 7)).1 = 7) a q h
  · rw [zK0_big q] at h
    cases h
theorem zK0_l {a : Nat} (h : (zK0 a).1 = 4) : (zK0 (a + 1)).1 = 7 ∧ (zK0 (a + 3)).1 = 7 := by
  by_cases q : a < 576
  · exact (by decide +kernel : ∀ a, a < 576 → (zK0 a).1 = 4 → (zK0 (a + 1)).1 = 7 ∧ (zK0 (a + 3)).1 = 7) a q h
  · rw [zK0_big q] at h
    cases h
theorem zK0_c {a : Nat} (h : (zK0 a).1 = 0) : (zK0 (a + 1)).1 = 7 := by
  by_cases q : a < 576
  · exact (by decide +kernel : ∀ a, a < 576 → (zK0 a).1 = 0 → (zK0 (a + 1)).1 = 7) a q h
  · rw [zK0_big q] at h
    cases h
theorem gfv_c0 {a : Nat} {g : zSg} (h : (zK0 a).1 = 0) : zfv (gm g) 0 a 0 = .ref (a + 1) := by
  show zrv (zR0 g.2.2.2 a 0) = _
  unfold zR0; rw [h]; rfl
theorem gfv_l0 {a : Nat} {g : zSg} (h : (zK0 a).1 = 4) : zfv (gm g) 4 a 0 = .ref (a + 1) := by
  show zrv (zR0 g.2.2.2 a 0) = _
  unfold zR0; rw [h]; rfl
theorem gfv_l1 {a : Nat} {g : zSg} (h : (zK0 a).1 = 4) : zfv (gm g) 4 a 1 = .ref (a + 3) := by
  show zrv (zR0 g.2.2.2 a 1) = _
  unfold zR0; rw [h]; rfl
theorem gfv_r0 {a : Nat} {g : zSg} (h : (zK0 a).1 = 7) : zfv (gm g) 7 a 0 = .ref (a + 1) := by
  show zrv (zR0 g.2.2.2 a 0) = _
  unfold zR0; rw [h]; rfl
theorem gfv_s0 {a : Nat} {g : zSg} (h : (zK0 a).1 = 8) : zfv (gm g) 8 a 0 = .ref (a + 1) := by
  show zrv (zR0 g.2.2.2 a 0) = _
  unfold zR0; rw [h]; rfl
theorem gfv_s1 {a : Nat} {g : zSg} (h : (zK0 a).1 = 8) : zfv (gm g) 8 a 1 = .ref (a + 3) := by
  show zrv (zR0 g.2.2.2 a 1) = _
  unfold zR0; rw [h]; rfl
theorem gfv_s2 {a : Nat} {g : zSg} (h : (zK0 a).1 = 8) : zfv (gm g) 8 a 2 = .ref (a + 5) := by
  show zrv (zR0 g.2.2.2 a 2) = _
  unfold zR0; rw [h]; rfl
theorem gfv_s3 {a : Nat} {g : zSg} (h : (zK0 a).1 = 8) : zfv (gm g) 8 a 3 = .ref (a + 7) := by
  show zrv (zR0 g.2.2.2 a 3) = _
  unfold zR0; rw [h]; rfl
/-- the one field that changes what it refers to -/
theorem gset_h {g : zSg} (v : Option Nat) : zset (gm g) 10 423 4 (zrv v) = some (gm (gsH g v)) := by
  have hk : ∀ a, (zK0 a).1 = 10 → a = 423 := by
    intro a h
    by_cases q : a < 576
    · exact (by decide +kernel : ∀ a, a < 576 → (zK0 a).1 = 10 → a = 423) a q h
    · rw [zK0_big q] at h
      cases h
  have hf : zup (zR0 g.2.2.2) 423 4 v = zR0 v := by
    funext a k
    by_cases ha : a = 423
    · subst ha
      by_cases hk4 : k = 4
      · subst hk4
        simp only [zup, if_true]
        rfl
      · simp only [zup, if_true, if_neg hk4]
        match k, hk4 with
        | 0, _ => rfl
        | 1, _ => rfl
        | 2, _ => rfl
        | 3, _ => rfl
        | 4, h => exact absurd rfl h
        | n + 5, _ => rfl
    · simp only [zup, if_neg ha]
      have h10 : ¬ (zK0 a).1 = 10 := fun q => ha (hk a q)
      unfold zR0
      split <;> first | rfl | exact absurd ‹_› h10
  cases v with
  | none =>
    show some (zsetR (gm g) 423 4 none) = some (gm (gsH g none))
    unfold zsetR gm gsH
    rw [← hf]
  | some x =>
    show some (zsetR (gm g) 423 4 (some x)) = some (gm (gsH g (some x)))
    unfold zsetR gm gsH
    rw [← hf]
section ZR2
variable {d : Nat} {sc : zSc} {hp : zHp} {cd : zCd} {pc pc' : Nat} {L L' : List (Option Value)} {S S' : List Value} {M M' : zMem} {r : Option Value × zMem} {g : zSg}
theorem g_inv2 {i : Instr} {len kd idx : Nat} {d' : Nat} {e : zE_} {v : Option Value} {As : List Value} {D : Nat} (hrun : zRn sc hp D e As M v M') (hl : zlk cd.2.2.2 pc = some (i, len)) (hw : zwf i len = true) (hc : zcls i = (kd + 1, idx)) (hk : kd < 3) (he : zcalle cd.1 idx kd = some e) (hok : zokc e kd S M = true) (hAs : (S.take (zna e kd)).reverse = As) (hd : d = d' + 1) (hD : D ≤ d') (hpc : pc + 3 = pc') (hS : v.toList ++ S.drop (zna e kd) = S') (k : zG d sc hp cd pc' L S' M' r) : zG d sc hp cd pc L S M r := by
  subst hpc; subst hS
  exact g_inv hl hw hc hk he hok hAs hrun hd hD k
theorem g_spec2 {i : Instr} {len kd idx jd : Nat} {d' : Nat} (hl : zlk cd.2.2.2 pc = some (i, len)) (hw : zwf i len = true) (hc : zcls i = (kd + 1, idx)) (hk : kd < 3) (he : zcalle cd.1 idx kd = none) (hx : zX cd.1 idx = some jd) (hj : jd ≠ 1009) (hkx : kd = zxk jd) (h16 : ¬ (jd = 1006 ∨ jd = 1007) ∨ 16 ≤ d') (hz : zsp jd S M = some (S', M')) (hd : d = d' + 1) (hpc : pc + 3 = pc') (k : zG d sc hp cd pc' L S' M' r) : zG d sc hp cd pc L S M r := by
  subst hpc
  exact g_spec hl hw hc hk he hx hj hkx h16 hz hd k
end ZR2
section ZR3
variable {d : Nat} {sc : zSc} {hp : zHp} {cd : zCd} {pc pc' : Nat} {L L' : List (Option Value)} {S S' : List Value} {M M' : zMem} {r : Option Value × zMem} {g : zSg}
theorem zst1_o {j : Nat} {v : Option Nat} {w : Value} (h : zld L j = some (zrv v)) : zst1 L (j + 1) w = L.set (j + 1) (some w) := by
  unfold zst1 zclr
  simp only [h]
  cases v <;> rfl
theorem g_ist {i : Nat} {x : Int32} (hl : zlk cd.2.2.2 pc = some (.istore i, 2)) (hi : i < L.length) (hL : zst1 L i (.int x) = L') (kk : zG d sc hp cd (pc + 2) L' S M r) : zG d sc hp cd pc L (.int x :: S) M r := by
  refine g_st hl rfl rfl (pc' := pc + 2) (L' := L') (S' := S) (M' := M) ?_ kk
  subst hL
  exact if_pos hi
theorem g_istn {i : Fin 4} {x : Int32} (hl : zlk cd.2.2.2 pc = some (.istore_n i, 1)) (hi : (i : Nat) < L.length) (hL : zst1 L i (.int x) = L') (kk : zG d sc hp cd (pc + 1) L' S M r) : zG d sc hp cd pc L (.int x :: S) M r := by
  refine g_st hl rfl rfl (pc' := pc + 1) (L' := L') (S' := S) (M' := M) ?_ kk
  subst hL
  exact if_pos hi
end ZR3
theorem zNu_n {β : Type} {kn : Option β} {ks : Nat → Option β} {r : β} (h : zNu none kn ks = some r) : kn = some r := h
theorem zNu_s {β : Type} {kn : Option β} {ks : Nat → Option β} {r : β} {a : Nat} (h : zNu (some a) kn ks = some r) : ks a = some r := h
