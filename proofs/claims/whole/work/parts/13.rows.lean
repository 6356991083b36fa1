/-! ===== runs of the clean machine, row by row ===== -/
theorem zinv_rc {d own kd idx : Nat} {rc rc' : zCd → List (Option Value) → zMem → Option (Option Value × zMem)} {hp : zHp} {S : List Value} {M : zMem} {r : List Value × zMem} (hr : ∀ c L M r, rc c L M = some r → rc' c L M = some r) (h : zinv d rc hp own kd idx S M = some r) : zinv d rc' hp own kd idx S M = some r := by
  unfold zinv at h ⊢
  split at h
  · rename_i e he
    split at h
    · rename_i hok
      rw [if_pos hok]
      split at h
      · rename_i v M' h1
        rw [hr _ _ _ _ h1]
        exact h
      · cases h
    · cases h
  · exact h
theorem zex_succ {sc : zSc} {hp : zHp} : ∀ {N d : Nat} {cd : zCd} {pc : Nat} {L : List (Option Value)} {S : List Value} {M : zMem} {r : Option Value × zMem}, zex N d sc hp cd pc L S M = some r → zex (N + 1) d sc hp cd pc L S M = some r := by
  intro N
  induction N with
  | zero => intro d cd pc L S M r h; cases h
  | succ N ih =>
    intro d cd pc L S M r h
    obtain ⟨i, len, hlk, hwf⟩ := zex_some h
    rw [zex_eq hlk hwf] at h ⊢
    split at h
    · exact h
    · split at h
      · exact ih h
      · cases h
    · rename_i k idx h4 hcl
      split at h
      · cases h
      · split at h
        · rename_i d' o9 S' M' hr
          have h2 := zinv_rc (rc' := fun c L M => zex (N + 1) d' sc hp c 0 L [] M) (fun c L M r q => ih q) hr
          simp only [h2]
          exact ih h
        · cases h
theorem zex_le {sc : zSc} {hp : zHp} {N N' d : Nat} {cd : zCd} {pc : Nat} {L : List (Option Value)} {S : List Value} {M : zMem} {r : Option Value × zMem} (hN : N ≤ N') (h : zex N d sc hp cd pc L S M = some r) : zex N' d sc hp cd pc L S M = some r := by
  induction hN with
  | refl => exact h
  | step _ ih => exact zex_succ ih
/-- it comes to r -/
def zG (d : Nat) (sc : zSc) (hp : zHp) (cd : zCd) (pc : Nat) (L : List (Option Value)) (S : List Value) (M : zMem) (r : Option Value × zMem) : Prop := ∃ N, zex N d sc hp cd pc L S M = some r
/-- a method's run: for every depth from D on -/
def zRn (sc : zSc) (hp : zHp) (D : Nat) (e : zE_) (As : List Value) (M : zMem) (v : Option Value) (M' : zMem) : Prop := ∀ d, D ≤ d → zG d sc hp (zcd e) 0 (zent As e.2.2.1) [] M (v, M')
section ZG
variable {d : Nat} {sc : zSc} {hp : zHp} {cd : zCd} {pc pc' : Nat} {L L' : List (Option Value)} {S S' : List Value} {M M' : zMem} {r : Option Value × zMem}
theorem g_st {i : Instr} {len : Nat} (hl : zlk cd.2.2.2 pc = some (i, len)) (hw : zwf i len = true) (hc : zcls i = (4, 0)) (hz : zst cd.1 cd.2.1 sc pc i L S M = some (pc', L', S', M')) (k : zG d sc hp cd pc' L' S' M' r) : zG d sc hp cd pc L S M r := by
  obtain ⟨N, hN⟩ := k
  refine ⟨N + 1, ?_⟩
  rw [zex_eq hl hw]
  simp only [hc, hz]
  exact hN
theorem g_ret {i : Instr} {len : Nat} {v : Option Value} (hl : zlk cd.2.2.2 pc = some (i, len)) (hw : zwf i len = true) (hc : zcls i = (0, 0)) (hz : zret cd.2.2.1 i S = some v) : zG d sc hp cd pc L S M (v, M) := by
  refine ⟨1, ?_⟩
  rw [zex_eq hl hw]
  simp only [hc, hz]
  rfl
/-- many steps at once -/
def zsts : Nat → zSc → zCd → Nat → List (Option Value) → List Value → zMem → Option zSt
  | 0, _, _, pc, L, S, M => some (pc, L, S, M)
  | n + 1, sc, cd, pc, L, S, M => match zlk cd.2.2.2 pc with
    | some (i, len) => match zwf i len, zcls i with
      | true, (4, 0) => match zst cd.1 cd.2.1 sc pc i L S M with
        | some (pc', L', S', M') => zsts n sc cd pc' L' S' M'
        | none => none
      | _, _ => none
    | none => none
theorem g_run (n : Nat) (hz : zsts n sc cd pc L S M = some (pc', L', S', M')) (k : zG d sc hp cd pc' L' S' M' r) : zG d sc hp cd pc L S M r := by
  induction n generalizing pc L S M with
  | zero =>
    simp only [zsts, Option.some.injEq, Prod.mk.injEq] at hz
    obtain ⟨rfl, rfl, rfl, rfl⟩ := hz
    exact k
  | succ n ih =>
    unfold zsts at hz
    split at hz
    · rename_i i len hl
      split at hz
      · rename_i hw hc
        split at hz
        · rename_i pc1 L1 S1 M1 h1
          exact g_st hl hw hc h1 (ih hz)
        · cases hz
      · cases hz
    · cases hz
theorem g_inv {i : Instr} {len kd idx : Nat} {d' : Nat} {e : zE_} {v : Option Value} {As : List Value} {D : Nat} (hl : zlk cd.2.2.2 pc = some (i, len)) (hw : zwf i len = true) (hc : zcls i = (kd + 1, idx)) (hk : kd < 3) (he : zcalle cd.1 idx kd = some e) (hok : zokc e kd S M = true) (hAs : (S.take (zna e kd)).reverse = As) (hrun : zRn sc hp D e As M v M') (hd : d = d' + 1) (hD : D ≤ d') (k : zG d sc hp cd (pc + 3) L (v.toList ++ S.drop (zna e kd)) M' r) : zG d sc hp cd pc L S M r := by
  subst hd
  obtain ⟨N1, h1⟩ := hrun d' hD
  obtain ⟨N2, h2⟩ := k
  refine ⟨max N1 N2 + 1, ?_⟩
  rw [zex_eq hl hw, hc]
  have h3 : zinv d' (fun c L M => zex (max N1 N2) d' sc hp c 0 L [] M) hp cd.1 kd idx S M = some (v.toList ++ S.drop (zna e kd), M') := by
    unfold zinv
    rw [he]
    simp only
    rw [if_pos hok, hAs, zex_le (Nat.le_max_left N1 N2) h1]
  match kd, hk with
  | 0, _ => simp only [h3]; exact zex_le (Nat.le_max_right N1 N2) h2
  | 1, _ => simp only [h3]; exact zex_le (Nat.le_max_right N1 N2) h2
  | 2, _ => simp only [h3]; exact zex_le (Nat.le_max_right N1 N2) h2
theorem g_spec {i : Instr} {len kd idx jd : Nat} {d' : Nat} (hl : zlk cd.2.2.2 pc = some (i, len)) (hw : zwf i len = true) (hc : zcls i = (kd + 1, idx)) (hk : kd < 3) (he : zcalle cd.1 idx kd = none) (hx : zX cd.1 idx = some jd) (hj : jd ≠ 1009) (hkx : kd = zxk jd) (h16 : ¬ (jd = 1006 ∨ jd = 1007) ∨ 16 ≤ d') (hz : zsp jd S M = some (S', M')) (hd : d = d' + 1) (k : zG d sc hp cd (pc + 3) L S' M' r) : zG d sc hp cd pc L S M r := by
  subst hd
  obtain ⟨N2, h2⟩ := k
  refine ⟨N2 + 1, ?_⟩
  rw [zex_eq hl hw, hc]
  have h3 : zinv d' (fun c L M => zex N2 d' sc hp c 0 L [] M) hp cd.1 kd idx S M = some (S', M') := by
    unfold zinv
    rw [he, hx]
    simp only
    rw [if_neg hj, if_pos ⟨hkx, h16⟩, hz]
  match kd, hk with
  | 0, _ => simp only [h3]; exact h2
  | 1, _ => simp only [h3]; exact h2
  | 2, _ => simp only [h3]; exact h2
end ZG
