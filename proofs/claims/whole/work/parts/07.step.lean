/-! ===== the clean machine is sound: one instruction ===== -/
theorem vpV_range {N j : Nat} {g : Nat → Value} (h : j < N) : vp_V ((List.range N).map g) j = g j := by
  simp [vp_V, List.getD, h]
theorem zfv_congr {M M' : zMem} {c a j : Nat} (h2 : zR M' a j = zR M a j) (h3 : zI M' a j = zI M a j) (h4 : zJ M' a j = zJ M a j) : zfv M' c a j = zfv M c a j := by
  unfold zfv
  rw [h2, h3, h4]
theorem zin_spec {M : zMem} {a kd : Nat} {i : Int32} (h : zin M a kd i = true) : (zK M a).1 = kd ∧ vp_in i (zK M a).2 := by
  unfold zin at h
  simp only [Bool.and_eq_true, decide_eq_true_eq] at h
  exact ⟨h.1, h.2⟩
theorem zisO_spec {M : zMem} {a c : Nat} (h : zisO M a c = true) : (zK M a).1 = c := by
  unfold zisO at h
  exact of_decide_eq_true h
theorem zout_spec {i : Int32} {n : Nat} (h : ¬ zout i n = true) : vp_in i n := by
  unfold zout at h
  simpa [vp_in] using h
theorem zjmp_spec {pc t : Nat} {off : Int} (h : zjmp pc off = some t) : (pc : Int) + off = (t : Int) := by
  unfold zjmp at h
  split at h
  · rename_i q hq
    cases h
    exact hq
  · cases h
theorem zgood_lay (C : String) (T : u_T) (k : Nat) : goodWord (u_lay C T k) = true := by
  unfold u_lay
  split <;> rfl
theorem zCk_Ts {c : Nat} (h : c < 13) : ∀ w ∈ u_ws (zRN c) (zT c) (zNf c), w ∈ zTs := by
  obtain ⟨C, T, N, -, e1, e2, e3, h2, -⟩ := zCk_ok h
  subst e1; subst e2
  have e4 : T = zT c := funext e3
  subst e4
  intro w hw
  refine zTs_of (h2 w hw) ?_
  obtain ⟨k, -, rfl⟩ := List.mem_map.mp hw
  exact zgood_lay _ _ _
theorem zCk_cl {c : Nat} (h : c < 13) : vwCl[c]? = some (zRN c, zT c, zNf c) := by
  obtain ⟨C, T, N, h1, e1, e2, e3, -⟩ := zCk_ok h
  subst e1; subst e2
  have e4 : T = zT c := funext e3
  subst e4
  exact h1
theorem zCk_rest {c : Nat} (h : c < 13) : (∀ k, k < zNf c → parseFieldDescriptor (zT c k).2.2.1 = some (zTy c k)) ∧ (∀ a, a < zNf c → ∀ b, b < zNf c → a ≠ b → (zT c a).2.1 ≠ (zT c b).2.1) ∧ (∀ k, k < zNf c → (zT c k).1 = zRN c) ∧ (∀ k, k < zNf c → (zT c k).2.2.2 = (((zFd c k).map Prod.snd).getD false)) ∧ Cond.instantiable (zRN c) (zNf c) ∈ lw_tbl ∧ Cond.initialized (zRN c) ∈ lw_tbl ∧ (∀ k, k < zNf c → match zFc c k with | 0 => zTy c k = .int | 1 => zTy c k = .long | 2 => (∃ t, zTy c k = .object t) ∨ (∃ t, zTy c k = .array t) | _ => zTy c k = .boolean) := by
  obtain ⟨C, T, N, -, e1, e2, e3, -, h3⟩ := zCk_ok h
  subst e1; subst e2
  have e4 : T = zT c := funext e3
  subst e4
  exact h3
section ZP
variable {p : Program} {l : Launch} {e : Env} {R : Room} {s : State} {m : MethodId} {args : Array Value} {below : List Frame} {meth : Method} {c : Code} {Q : State → Prop}
variable {cc : ByteArray} {b nL own n0 s0 pc pc' : Nat} {sp : UInt32 → Nat} {cy : Nat → ClassId} {D : va_G} {sc : zSc} {X : State → Heap → Prop} {ini : Bool} {L L' : List (Option Value)} {S S' : List Value} {M M' : zMem}
/-- what putfield may lay, as the kit wants it -/
theorem zset_spec {ci a k : Nat} {v : Value} (hc : ci < 13) (hk : k < zNf ci) (h : zset M ci a k v = some M') : zN M' = zN M ∧ zS M' = zS M ∧ zK M' = zK M ∧ (∀ j, j ≠ a → zR M' j = zR M j ∧ zI M' j = zI M j ∧ zJ M' j = zJ M j) ∧ (∀ j, zfv M' ci a j = if j = k then v else zfv M ci a j) ∧ narrow (zTy ci k) (zt b sp v) = zt b sp v ∧ fits (zTy ci k) (zt b sp v) = true := by
  have h7 := (zCk_rest hc).2.2.2.2.2.2 k hk
  unfold zset at h
  split at h
  · rename_i x h0
    cases h
    rw [h0] at h7
    refine ⟨rfl, rfl, rfl, fun j hj => ⟨rfl, zup_ne hj, rfl⟩, fun j => ?_, ?_, ?_⟩
    · by_cases e : j = k
      · subst e
        rw [if_pos rfl]
        unfold zfv
        rw [h0]
        show Value.int (zup M.2.2.2.1 a j x a j) = _
        simp [zup]
      · rw [if_neg e]
        exact zfv_congr rfl (by show zup M.2.2.2.1 a k x a j = _; simp [zup, e]) rfl
    · rw [h7]; rfl
    · rw [h7]; rfl
  · rename_i x h0
    cases h
    rw [h0] at h7
    refine ⟨rfl, rfl, rfl, fun j hj => ⟨rfl, rfl, zup_ne hj⟩, fun j => ?_, ?_, ?_⟩
    · by_cases e : j = k
      · subst e
        rw [if_pos rfl]
        unfold zfv
        rw [h0]
        show Value.long (zup M.2.2.2.2 a j x a j) = _
        simp [zup]
      · rw [if_neg e]
        exact zfv_congr rfl rfl (by show zup M.2.2.2.2 a k x a j = _; simp [zup, e])
    · rw [h7]; rfl
    · rw [h7]; rfl
  · rename_i x h0
    cases h
    rw [h0] at h7
    refine ⟨rfl, rfl, rfl, fun j hj => ⟨zup_ne hj, rfl, rfl⟩, fun j => ?_, ?_, ?_⟩
    · by_cases e : j = k
      · subst e
        rw [if_pos rfl]
        unfold zfv
        rw [h0]
        show zrv (zup M.2.2.1 a j (some x) a j) = _
        simp [zup, zrv]
      · rw [if_neg e]
        exact zfv_congr (by show zup M.2.2.1 a k (some x) a j = _; simp [zup, e]) rfl rfl
    · rcases h7 with ⟨t, h7⟩ | ⟨t, h7⟩ <;> rw [h7] <;> rfl
    · rcases h7 with ⟨t, h7⟩ | ⟨t, h7⟩ <;> rw [h7] <;> rfl
  · rename_i h0
    cases h
    rw [h0] at h7
    refine ⟨rfl, rfl, rfl, fun j hj => ⟨zup_ne hj, rfl, rfl⟩, fun j => ?_, ?_, ?_⟩
    · by_cases e : j = k
      · subst e
        rw [if_pos rfl]
        unfold zfv
        rw [h0]
        show zrv (zup M.2.2.1 a j none a j) = _
        simp [zup, zrv]
      · rw [if_neg e]
        exact zfv_congr (by show zup M.2.2.1 a k none a j = _; simp [zup, e]) rfl rfl
    · rcases h7 with ⟨t, h7⟩ | ⟨t, h7⟩ <;> rw [h7] <;> rfl
    · rcases h7 with ⟨t, h7⟩ | ⟨t, h7⟩ <;> rw [h7] <;> rfl
  · rename_i x h0
    split at h
    · rename_i h1
      cases h
      rw [h0] at h7
      refine ⟨rfl, rfl, rfl, fun j hj => ⟨rfl, zup_ne hj, rfl⟩, fun j => ?_, ?_, ?_⟩
      · by_cases e : j = k
        · subst e
          rw [if_pos rfl]
          unfold zfv
          rw [h0]
          show Value.int (zup M.2.2.2.1 a j x a j) = _
          simp [zup]
        · rw [if_neg e]
          exact zfv_congr rfl (by show zup M.2.2.2.1 a k x a j = _; simp [zup, e]) rfl
      · rw [h7]; rcases h1 with rfl | rfl <;> rfl
      · rw [h7]; rcases h1 with rfl | rfl <;> rfl
    · cases h
  · cases h
theorem zgetf_go {idx : Nat} (hC : zCx p s m args meth c cc nL own ini b sp cy D sc X) (hd : decode cc pc = .ok (.getfield idx, 3)) {ci k a : Nat} {r : List Value} (hF : zF own idx = some (ci, k)) (hO : zisO M a ci = true)
    (kk : zGo p l e R s m args below meth c Q b nL n0 s0 sp cy D (pc + 3) L (zfv M ci a k :: r) M) : zGo p l e R s m args below meth c Q b nL n0 s0 sp cy D pc L (.ref a :: r) M := by
  obtain ⟨hx, hb, hml, hown, hts, hK, hold, hini, hlocks⟩ := id hC
  obtain ⟨hl, hc, hk⟩ := zF_ok hF
  have h2 := zisO_spec hO
  have h1 : (zK M a).1 < 99 := by rw [h2]; exact Nat.lt_trans hc (by decide)
  intro H locs ls hW hS hL
  refine va_get (ref := zRN ci) hx hb hts (zCk_Ts hc) hown hK (hW.P h1) 0 (by rw [zE_obj h2 hc]; rfl) (zCk_cl hc) k hk (hts _ (zTs_of hl rfl)) (fun x hx => by rw [(zCk_rest hc).2.2.1 k hk] at hx; exact hx) (v := zt b sp (zfv M ci a k)) ?_ hd (kk H locs ls hW hS hL)
  simp [hk]
theorem zputf_go {idx : Nat} (hC : zCx p s m args meth c cc nL own ini b sp cy D sc X) (hd : decode cc pc = .ok (.putfield idx, 3)) {ci k a : Nat} {v : Value} {r : List Value} (hF : zF own idx = some (ci, k)) (hO : zisO M a ci = true) (hf : (!((zFd ci k).map Prod.snd).getD false || (ini && decide (own = ci))) = true) (hz : zset M ci a k v = some M')
    (kk : zGo p l e R s m args below meth c Q b nL n0 s0 sp cy D (pc + 3) L r M') : zGo p l e R s m args below meth c Q b nL n0 s0 sp cy D pc L (v :: .ref a :: r) M := by
  obtain ⟨hx, hb, hml, hown, hts, hK, hold, hini, hlocks⟩ := id hC
  obtain ⟨hl, hc, hk⟩ := zF_ok hF
  have h2 := zisO_spec hO
  have h1 : (zK M a).1 < 99 := by rw [h2]; exact Nat.lt_trans hc (by decide)
  obtain ⟨g1, g2, g3, g4, g5, g6, g7⟩ := zset_spec (b := b) (sp := sp) hc hk hz
  obtain ⟨c1, c2, c3, c4, c5, c6, c7⟩ := zCk_rest hc
  intro H locs ls hW hS hL
  have hP := hW.P h1
  have he : [(b + a, zE b sp cy M a)][0]? = some (b + a, .inr (ci, (List.range (zNf ci)).map (fun j => zt b sp (zfv M ci a j)))) := by rw [zE_obj h2 hc]; rfl
  have hap := va_apart (own := zRN own) hts (zCk_Ts hc) (zTy ci) c1 c2 hK (zCk_cl hc)
  obtain ⟨r9, hr9, cell, q1, q2, q3, q4⟩ := hP 0 _ he
  have hr : r9 = (zRN ci, zT ci, zNf ci) := Option.some.inj (hr9.symm.trans (zCk_cl hc))
  subst hr
  obtain ⟨hSl, hfc, kC, hkC, hkind⟩ := hK.1 ci _ (zCk_cl hc)
  obtain ⟨cf, kf, fi, f, hi, hsl⟩ := hSl k hk
  have hlay := hts _ (zCk_Ts hc _ (u_in_lay hk))
  have hst := (u_facts hfc hkC (u_lays hts (zCk_Ts hc) hk) hi).1
  have hi2 : s.fieldFound? (zRN ci) (zT ci k).2.1 (zT ci k).2.2.1 = some (cf, kf, fi, f) := by
    have hi' := hi
    rw [c3 k hk] at hi'
    exact hi'
  have fin : ∀ H' : Heap, H'[b + a]? = some (cell.setSlot f.slot (zt b sp v)) → H'.size = H.size → (∀ q, q ≠ b + a → H'[q]? = H[q]?) → W p l e R s m args below meth c H' (locs ++ [⟨b + a, f.slot⟩]) (zN M - n0) (zS M - s0) Q (F0 m (pc + 3) ls (r.map (zt b sp))) := by
    intro H' e1 e2 e3
    rw [hsl] at e1
    have hW' : zWd b sp cy D M' H' := by
      refine hW.upd e2 e3 g1 g3 (fun j hj => zE_congr (by rw [g3]) (g4 j hj).1 (g4 j hj).2.1 (g4 j hj).2.2) ?_
      rw [zE_obj (c := ci) (by rw [g3]; exact h2) hc]
      refine ⟨_, zCk_cl hc, t_OB.to (V := updV (vp_V ((List.range (zNf ci)).map (fun j => zt b sp (zfv M ci a j)))) k (zt b sp v)) ⟨_, e1, q2, q3, t_set q4 hap hk _⟩ (fun j hj => ?_)⟩
      have hj' : j < zNf ci := hj
      rw [vpV_range hj']
      unfold updV
      rw [vpV_range hj', g5 j]
      split <;> rfl
    have h9 := kk H' (locs ++ [⟨b + a, f.slot⟩]) ls hW' (hS.put e2 e3 (Nat.le_add_right _ _)) hL
    rw [g1, g2] at h9
    exact h9
  simp only [Bool.or_eq_true, Bool.not_eq_true', Bool.and_eq_true, decide_eq_true_eq] at hf
  rcases hf with hf | ⟨hf1, hf2⟩
  · have hfin : (zT ci k).2.2.2 = false := by rw [c4 k hk]; exact hf
    unfold u_lay at hlay
    rw [if_neg (by rw [hfin]; decide)] at hlay
    have h6 := u_store (v := zt b sp v) hfc hkC hkind hlay hi (c1 k hk) g6 g7
    exact W.putK hx hb (f := f) ⟨hown, hts _ (zTs_of hl rfl), ⟨_, _, _, hi2⟩, hst⟩ (by rw [q2]; exact h6) q1 q3 (by rw [hsl]; exact k2_hasslot (q4 k hk)) rfl rfl hd fin
  · by_cases hfin : (zT ci k).2.2.2 = true
    · unfold u_lay at hlay
      rw [if_pos hfin] at hlay
      have hcf : m.cls = cf := by
        obtain ⟨_, _, c', _, _, _, -, -, hf', -, -, -, hown2, -⟩ := Cond.laysFinal_spec hlay
        have e1 : c' = cf := by have := hi.symm.trans hf'; simp at this; exact this.1.symm
        rw [c3 k hk, ← hf2] at hown2
        rw [← e1]; exact Option.some.inj (hown.symm.trans hown2)
      have h6 := u_fits (v := zt b sp v) hfc hkC hkind (Or.inr hlay) hi (c1 k hk) g6 g7
      exact W.putFinK hx hb hown (hts _ (zTs_of hl rfl)) hi2 hst hcf (hini hf1) (by rw [q2]; exact h6) q1 q3 (by rw [hsl]; exact k2_hasslot (q4 k hk)) rfl rfl hd fin
    · have hfin : (zT ci k).2.2.2 = false := by simpa using hfin
      unfold u_lay at hlay
      rw [if_neg (by rw [hfin]; decide)] at hlay
      have h6 := u_store (v := zt b sp v) hfc hkC hkind hlay hi (c1 k hk) g6 g7
      exact W.putK hx hb (f := f) ⟨hown, hts _ (zTs_of hl rfl), ⟨_, _, _, hi2⟩, hst⟩ (by rw [q2]; exact h6) q1 q3 (by rw [hsl]; exact k2_hasslot (q4 k hk)) rfl rfl hd fin
theorem znew_go {idx ci : Nat} (hC : zCx p s m args meth c cc nL own ini b sp cy D sc X) (hd : decode cc pc = .ok (.new idx, 3)) (hF : zKl own idx = some ci) (hn : n0 ≤ zN M ∧ s0 ≤ zS M) (hr : zN M + 1 - n0 ≤ R.cells ∧ zS M + zNf ci - s0 ≤ R.slots)
    (kk : zGo p l e R s m args below meth c Q b nL n0 s0 sp cy D (pc + 3) L (.ref (zN M) :: S) (znew M ci 0 (zNf ci))) : zGo p l e R s m args below meth c Q b nL n0 s0 sp cy D pc L S M := by
  obtain ⟨hx, hb, hml, hown, hts, hK, hold, hini, hlocks⟩ := id hC
  have hl : Cond.classLink (zRN own) idx (zRN ci) ∈ lw_tbl := (zKl_ok hF).1
  have hc : ci < 13 := (zKl_ok hF).2
  obtain ⟨c1, c2, c3, c4, c5, c6, c7⟩ := zCk_rest hc
  intro H locs ls hW hS hL
  have hKn := hK.1 ci _ (zCk_cl hc)
  refine W.newcK hx hb hown (hts _ (zTs_of hl rfl)) (hts _ (zTs_of c5 rfl)) (hts _ (zTs_of c6 rfl)) rfl hd (by omega) (by omega) hKn.2.1 hW.1 fun H1 kC hkC e1 z1 o1 => ?_
  have hW' : zWd b sp cy D (znew M ci 0 (zNf ci)) H1 := by
    refine hW.push z1 o1 ?_
    have hk9 : (zK (znew M ci 0 (zNf ci)) (zN M)).1 = ci := by
      show (if zN M = zN M then (ci, 0) else _).1 = ci
      rw [if_pos rfl]
    rw [zE_obj hk9 hc]
    refine ⟨_, zCk_cl hc, (u_born (zTy ci) hts (zCk_Ts hc) hKn hkC e1 c1).to (fun j hj => ?_)⟩
    have hj' : j < zNf ci := hj
    rw [vpV_range hj']
    have h7 := c7 j hj'
    unfold zfv
    have hr0 : zR (znew M ci 0 (zNf ci)) (zN M) j = none := by show zrow M.2.2.1 M.1.1 (fun _ => none) M.1.1 j = none; simp [zrow]
    have hi0 : zI (znew M ci 0 (zNf ci)) (zN M) j = 0 := by show zrow M.2.2.2.1 M.1.1 (fun _ => 0) M.1.1 j = 0; simp [zrow]
    have hj0 : zJ (znew M ci 0 (zNf ci)) (zN M) j = 0 := by show zrow M.2.2.2.2 M.1.1 (fun _ => 0) M.1.1 j = 0; simp [zrow]
    rw [hr0, hi0, hj0]
    split at h7
    · rename_i h8; rw [h7, h8]; rfl
    · rename_i h8; rw [h7, h8]; rfl
    · rename_i h8; rw [h8]; rcases h7 with ⟨t, h7⟩ | ⟨t, h7⟩ <;> rw [h7] <;> rfl
    · rename_i h8a h8b h8c
      rw [h7]
      split
      · exact absurd ‹_› h8b
      · exact absurd ‹_› h8c
      · rfl
  have hS' : va_S (fun q => b ≤ q) s.heap H1 locs := ⟨Nat.le_trans hS.1 (by rw [z1, hW.1]; omega), fun x h1 h2 => (o1 x (by rw [← hW.1]; exact Nat.lt_of_lt_of_le h1 hS.1)).trans (hS.2.1 x h1 h2), hS.2.2⟩
  have h9 := kk H1 locs ls hW' hS' hL
  have e1 : zN (znew M ci 0 (zNf ci)) - n0 = zN M - n0 + 1 := by show zN M + 1 - n0 = _; omega
  have e2 : zS (znew M ci 0 (zNf ci)) - s0 = zS M - s0 + zNf ci := by show zS M + zNf ci - s0 = _; omega
  rw [e1, e2] at h9
  exact h9
end ZP
