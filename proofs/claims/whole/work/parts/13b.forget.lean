/-! ===== locals may be forgotten ===== -/
def zle : List (Option Value) → List (Option Value) → Prop
  | [], [] => True
  | none :: r, _ :: r2 => zle r r2
  | some v :: r, w :: r2 => w = some v ∧ zle r r2
  | _, _ => False
def zleq (L L2 : List (Option Value)) : Prop := L.length = L2.length ∧ ∀ (i : Nat) (v : Value), L[i]? = some (some v) → L2[i]? = some (some v)
theorem zle_q : ∀ {L L2 : List (Option Value)}, zle L L2 → zleq L L2
  | [], [], _ => ⟨rfl, fun i v h => h⟩
  | none :: r, w :: r2, h => by
    obtain ⟨h1, h2⟩ := zle_q (show zle r r2 from h)
    refine ⟨by simp [h1], fun i v hv => ?_⟩
    cases i with
    | zero => simp at hv
    | succ i => simpa using h2 i v (by simpa using hv)
  | some u :: r, w :: r2, h => by
    have h : w = some u ∧ zle r r2 := h
    obtain ⟨h1, h2⟩ := zle_q h.2
    refine ⟨by simp [h1], fun i v hv => ?_⟩
    cases i with
    | zero => rw [h.1]; simpa using hv
    | succ i => simpa using h2 i v (by simpa using hv)
  | [], _ :: _, h => False.elim h
  | none :: _, [], h => False.elim h
  | some _ :: _, [], h => False.elim h
theorem zleq.ld {L L2 : List (Option Value)} (h : zleq L L2) {i : Nat} {v : Value} (hv : zld L i = some v) : zld L2 i = some v := zld_of (h.2 i v (zld_eq hv))
theorem zleq.clr {L L2 : List (Option Value)} (h : zleq L L2) (i : Nat) : zleq (zclr L i) (zclr L2 i) := by
  refine ⟨by rw [zclr_len, zclr_len]; exact h.1, fun j v hv => ?_⟩
  obtain ⟨h1, h2⟩ := zclr_get hv
  have h3 := zld_eq (h.ld h1)
  unfold zclr
  split
  · exact h3
  · rename_i k
    split
    · rename_i w hw
      split
      · rename_i hc
        have hne : k ≠ j := by
          intro e
          subst e
          have := hw.symm.trans (h.ld h1)
          cases this
          exact h2 ⟨rfl, hc⟩
        rw [List.getElem?_set_ne hne]
        exact h3
      · exact h3
    · exact h3
theorem zleq.set {L L2 : List (Option Value)} (h : zleq L L2) (i : Nat) (o : Option Value) : zleq (L.set i o) (L2.set i o) := by
  refine ⟨by simp [h.1], fun j v hv => ?_⟩
  by_cases e : i = j
  · subst e
    rw [List.getElem?_set] at hv ⊢
    simp only [if_true] at hv ⊢
    rw [← h.1]
    exact hv
  · rw [List.getElem?_set_ne e] at hv ⊢
    exact h.2 j v hv
theorem zleq.st1 {L L2 : List (Option Value)} (h : zleq L L2) (i : Nat) (v : Value) : zleq (zst1 L i v) (zst1 L2 i v) := (h.clr i).set i _
theorem zleq.st2 {L L2 : List (Option Value)} (h : zleq L L2) (i : Nat) (v : Value) : zleq (zst2 L i v) (zst2 L2 i v) := ((h.clr i).set i _).set (i + 1) _
section ZFO
variable {own pc pc' : Nat} {ini : Bool} {sc : zSc} {L L' L2 : List (Option Value)} {S S' : List Value} {M M' : zMem}
/-- a step that leaves the locals be -/
theorem zfo_of {a : Nat} {S1 : List Value} {M1 : zMem} (hL : zleq L L2) (h : (some (a, L, S1, M1) : Option zSt) = some (pc', L', S', M')) : ∃ L2', (some (a, L2, S1, M1) : Option zSt) = some (pc', L2', S', M') ∧ zleq L' L2' := by
  simp only [Option.some.injEq, Prod.mk.injEq] at h
  obtain ⟨rfl, rfl, rfl, rfl⟩ := h
  exact ⟨L2, rfl, hL⟩
theorem zfo_map {o : Option Nat} {S1 : List Value} (hL : zleq L L2) (h : o.map (fun t => (t, L, S1, M)) = some (pc', L', S', M')) : ∃ L2', o.map (fun t => (t, L2, S1, M)) = some (pc', L2', S', M') ∧ zleq L' L2' := by
  obtain ⟨t, h1, he⟩ := Option.map_eq_some_iff.mp h
  simp only [Prod.mk.injEq] at he
  obtain ⟨rfl, rfl, rfl, rfl⟩ := he
  exact ⟨L2, by rw [h1]; rfl, hL⟩
theorem zfo_bind {α : Type} {o : Option α} {f : α → Option Nat} {S1 : List Value} (hL : zleq L L2) (h : o.bind (fun x => (f x).map (fun t => (t, L, S1, M))) = some (pc', L', S', M')) : ∃ L2', o.bind (fun x => (f x).map (fun t => (t, L2, S1, M))) = some (pc', L2', S', M') ∧ zleq L' L2' := by
  obtain ⟨x, h1, h⟩ := Option.bind_eq_some_iff.mp h
  obtain ⟨L2', h2, h3⟩ := zfo_map hL h
  exact ⟨L2', by rw [h1]; exact h2, h3⟩
theorem zfo_set {c a k q : Nat} {v : Value} {S1 : List Value} (hL : zleq L L2) (h : (zset M c a k v).map (fun M' => (q, L, S1, M')) = some (pc', L', S', M')) : ∃ L2', (zset M c a k v).map (fun M' => (q, L2, S1, M')) = some (pc', L2', S', M') ∧ zleq L' L2' := by
  obtain ⟨t, h1, he⟩ := Option.map_eq_some_iff.mp h
  simp only [Prod.mk.injEq] at he
  obtain ⟨rfl, rfl, rfl, rfl⟩ := he
  exact ⟨L2, by rw [h1]; rfl, hL⟩
theorem zil_fo {q i : Nat} (hL : zleq L L2) (h : zil q i L S M = some (pc', L', S', M')) : ∃ L2', zil q i L2 S M = some (pc', L2', S', M') ∧ zleq L' L2' := by
  unfold zil at h ⊢
  split at h
  · rename_i x hx
    rw [hL.ld hx]
    exact zfo_of hL h
  · cases h
theorem zll_fo {q i : Nat} (hL : zleq L L2) (h : zll q i L S M = some (pc', L', S', M')) : ∃ L2', zll q i L2 S M = some (pc', L2', S', M') ∧ zleq L' L2' := by
  unfold zll at h ⊢
  split at h
  · rename_i x hx
    rw [hL.ld hx]
    exact zfo_of hL h
  · cases h
theorem zal_fo {q i : Nat} (hL : zleq L L2) (h : zal q i L S M = some (pc', L', S', M')) : ∃ L2', zal q i L2 S M = some (pc', L2', S', M') ∧ zleq L' L2' := by
  unfold zal at h ⊢
  split at h
  · rename_i x hx
    rw [hL.ld hx]
    exact zfo_of hL h
  · rename_i hx
    rw [hL.ld hx]
    exact zfo_of hL h
  · rename_i x hx
    rw [hL.ld hx]
    exact zfo_of hL h
  · cases h
theorem zis_fo {q i : Nat} (hL : zleq L L2) (h : zis q i L S M = some (pc', L', S', M')) : ∃ L2', zis q i L2 S M = some (pc', L2', S', M') ∧ zleq L' L2' := by
  unfold zis at h ⊢
  split at h
  · split at h
    · rename_i hi
      rw [← hL.1, if_pos hi]
      exact zfo_of (hL.st1 _ _) h
    · cases h
  · cases h
theorem zls_fo {q i : Nat} (hL : zleq L L2) (h : zls q i L S M = some (pc', L', S', M')) : ∃ L2', zls q i L2 S M = some (pc', L2', S', M') ∧ zleq L' L2' := by
  unfold zls at h ⊢
  split at h
  · split at h
    · rename_i hi
      rw [← hL.1, if_pos hi]
      exact zfo_of (hL.st2 _ _) h
    · cases h
  · cases h
theorem zas_fo {q i : Nat} (hL : zleq L L2) (h : zas q i L S M = some (pc', L', S', M')) : ∃ L2', zas q i L2 S M = some (pc', L2', S', M') ∧ zleq L' L2' := by
  unfold zas at h ⊢
  split at h
  · split at h
    · rename_i hi
      rw [← hL.1, if_pos hi]
      exact zfo_of (hL.st1 _ _) h
    · cases h
  · split at h
    · rename_i hi
      rw [← hL.1, if_pos hi]
      exact zfo_of (hL.st1 _ _) h
    · cases h
  · cases h
set_option maxHeartbeats 8000000 in
theorem zst_fo {i : Instr} (hL : zleq L L2) (hz : zst own ini sc pc i L S M = some (pc', L', S', M')) : ∃ L2', zst own ini sc pc i L2 S M = some (pc', L2', S', M') ∧ zleq L' L2' := by
  cases i <;> first
    | exact Option.noConfusion (show (none : Option zSt) = some _ from hz)
    | exact zfo_of hL hz
    | exact zil_fo hL hz
    | exact zll_fo hL hz
    | exact zal_fo hL hz
    | exact zis_fo hL hz
    | exact zls_fo hL hz
    | exact zas_fo hL hz
    | exact zfo_map hL hz
    | (simp only [zst, zi1, zi2, zid, zl2, zldn, zlsh] at hz ⊢
       repeat' (split at hz)
       all_goals first
         | (cases hz; done)
         | exact zfo_of hL hz
         | exact zfo_map hL hz
         | exact zfo_bind hL hz
         | exact zfo_set hL hz
         | (simp only [*, if_true, if_false]; exact zfo_of hL hz)
         | (simp only [*, if_true, if_false]; exact zfo_map hL hz)
         | (simp only [*, if_true, if_false]; exact zfo_bind hL hz)
         | (simp only [*, if_true, if_false]; exact zfo_set hL hz)
         | (rename_i hx hi; rw [hL.ld hx, ← hL.1]; simp only [hi, if_true]; exact zfo_of (hL.st1 _ _) hz))
end ZFO
theorem zex_fo {sc : zSc} {hp : zHp} : ∀ {N d : Nat} {cd : zCd} {pc : Nat} {L L2 : List (Option Value)} {S : List Value} {M : zMem} {r : Option Value × zMem}, zleq L L2 → zex N d sc hp cd pc L S M = some r → zex N d sc hp cd pc L2 S M = some r := by
  intro N
  induction N with
  | zero => intro d cd pc L L2 S M r hL h; cases h
  | succ N ih =>
    intro d cd pc L L2 S M r hL h
    obtain ⟨i, len, hlk, hwf⟩ := zex_some h
    rw [zex_eq hlk hwf] at h ⊢
    split at h
    · exact h
    · split at h
      · rename_i pc' L' S' M' hst
        obtain ⟨L2', h1, h2⟩ := zst_fo hL hst
        simp only [h1]
        exact ih h2 h
      · cases h
    · rename_i k idx h4 hcl
      split at h
      · cases h
      · split at h
        · rename_i d' o9 S' M' hr
          exact ih hL h
        · cases h
theorem g_forget {d : Nat} {sc : zSc} {hp : zHp} {cd : zCd} {pc : Nat} {L L' : List (Option Value)} {S : List Value} {M : zMem} {r : Option Value × zMem} (hL : zle L' L) (k : zG d sc hp cd pc L' S M r) : zG d sc hp cd pc L S M r := by
  obtain ⟨N, h⟩ := k
  exact ⟨N, zex_fo (zle_q hL) h⟩
