/-! ===== the hook for the law's own method person ===== -/
def zLPq (q : Int32 × Int32 × List Value × zSg × (Int32 × zSg)) (S : List Value) (M : zMem) : Prop :=
  S = .ref 553 :: .int q.2.1 :: .int q.1 :: .ref 0 :: q.2.2.1 ∧ M = gm q.2.2.2.1 ∧ f_L_person q.1 q.2.1 q.2.2.2.1 = some q.2.2.2.2 ∧ zcat q.2.2.1 ≤ 8
noncomputable def zhpP : zHp := fun S M => @dite _ (∃ q, zLPq q S M) (Classical.propDecidable _) (fun h => some (.int h.choose.2.2.2.2.1 :: h.choose.2.2.1, gm h.choose.2.2.2.2.2)) (fun _ => none)
theorem zhpP_spec {S S' : List Value} {M M' : zMem} (h : zhpP S M = some (S', M')) : ∃ q, zLPq q S M ∧ S' = .int q.2.2.2.2.1 :: q.2.2.1 ∧ M' = gm q.2.2.2.2.2 := by
  unfold zhpP at h
  split at h
  · rename_i hq
    cases h
    exact ⟨hq.choose, hq.choose_spec, rfl, rfl⟩
  · cases h
theorem gm_inj {g h : zSg} (e : gm g = gm h) : g = h := by
  obtain ⟨a, i, j, k⟩ := g
  obtain ⟨a1, i1, j1, k1⟩ := h
  have e1 : a = a1 := congrArg Prod.fst e
  have e2 : i = i1 := congrArg (fun q : zMem => q.2.2.2.1) e
  have e3 : j = j1 := congrArg (fun q : zMem => q.2.2.2.2) e
  have e4 : zR0 k 423 4 = zR0 k1 423 4 := congrArg (fun q : zMem => q.2.2.1 423 4) e
  have e5 : ∀ o : Option Nat, zR0 o 423 4 = o := fun o => by
    unfold zR0
    rw [show (zK0 423).1 = 10 from by decide +kernel]
    rfl
  rw [e5, e5] at e4
  rw [e1, e2, e3, e4]
theorem zhpP_hok : zHok zhpP := by
  intro p w g rest r hf hcat
  have hq : ∃ q, zLPq q (.ref 553 :: .int w :: .int p :: .ref 0 :: rest) (gm g) := ⟨(p, w, rest, g, r), rfl, rfl, hf, hcat⟩
  unfold zhpP
  rw [dif_pos hq]
  obtain ⟨h1, h2, h3, -⟩ := hq.choose_spec
  generalize hq.choose = q at h1 h2 h3 ⊢
  obtain ⟨p1, w1, rest1, g1, r1⟩ := q
  dsimp only at h1 h2 h3 ⊢
  have h4 := gm_inj h2
  subst h4
  cases h1
  cases hf.symm.trans h3
  rfl
section ZHQ
variable {l : Launch} {b : Nat} {sp : UInt32 → Nat} {cy : Nat → ClassId} {D : va_G} {sc : zSc} {t : Nat}
theorem zl_met (hl : l.stackTraces = false) {p w : Int32} {g : zSg} {r : Int32 × zSg} (hf : f_L_person p w g = some r) :
    (zN (gm g) ≤ zN (gm r.2) ∧ zS (gm g) ≤ zS (gm r.2)) ∧ Met l yL_person zLw ({ frames := 15, cells := zN (gm r.2) - zN (gm g), slots := zS (gm r.2) - zS (gm g), locals := 64 * 15 } : Room) (zPc b sp cy D sc (zXX b (sp 2) t) (gm g) [.ref 0, .int p, .int w, .ref 553]) (zQc b sp cy D (some (.int r.1)) (gm r.2)) (zN (gm r.2) - zN (gm g)) (zS (gm r.2) - zS (gm g)) (fun q => b ≤ q) := by
  unfold f_L_person at hf
  obtain ⟨v, g1, e1, hf1⟩ := zB_of hf
  clear hf
  have hg1 : g1 = g := hasPerson_g e1
  subst hg1
  by_cases hc : v = 0 ∨ w < 0 ∨ 2 < w
  · replace hf1 := (if_pos hc).symm.trans hf1
    cases hf1
    have c1 : zN (gm (gbump g1)) - zN (gm g1) = 1 := by
      show g1.1.1 + 1 - g1.1.1 = 1
      omega
    have c2 : zS (gm (gbump g1)) - zS (gm g1) = 6 := by
      show g1.1.2 + 6 - g1.1.2 = 6
      omega
    refine ⟨⟨by show g1.1.1 ≤ g1.1.1 + 1; omega, by show g1.1.2 ≤ g1.1.2 + 6; omega⟩, ?_⟩
    show Met l yL_person zLw ({ frames := 15, cells := zN (gm (gbump g1)) - zN (gm g1), slots := zS (gm (gbump g1)) - zS (gm g1), locals := 64 * 15 } : Room) _ _ (zN (gm (gbump g1)) - zN (gm g1)) (zS (gm (gbump g1)) - zS (gm g1)) _
    rw [c1, c2]
    exact zl_throw (d := 15) hl (by decide) e1 hc
  · replace hf1 := (if_neg hc).symm.trans hf1
    obtain ⟨v2, g2, e2, hf2⟩ := zB_of hf1
    cases hf2
    have hG : zG 15 sc zhp0 zcdLP 0 [some (.ref 0), some (.int p), some (.int w), some (.ref 553), none] [] (gm g1) (some (.int 0), gm (gsJ g2 553 0 v2.toInt64)) := by
      refine g_run 5 (pc' := 5) (L' := [some (.ref 0), some (.int p), some (.int w), some (.ref 553), none]) (S' := [.int w, .int p, .ref 0, .int 0, .ref 553]) (M' := gm g1) rfl ?_
      refine g_inv2 (kd := 1) (d' := 14) (p_X11_person e2) rfl rfl rfl (by decide) rfl rfl rfl rfl (by decide) (pc' := 8) rfl (S' := [.int v2, .int 0, .ref 553]) rfl ?_
      refine g_run 4 (pc' := 18) (L' := [some (.ref 0), some (.int p), some (.int w), some (.ref 553), none]) (S' := [.int 0]) (M' := gm (gsJ g2 553 0 v2.toInt64)) rfl ?_
      exact g_ret rfl rfl rfl rfl
    obtain ⟨N, hN⟩ := hG
    exact zl_norm (by decide) hN
theorem zhp_ok (hl : l.stackTraces = false) : zHpOK l b sp cy D sc zhpP (zXX b (sp 2) t) := by
  intro S S' M M' h
  obtain ⟨⟨x, w, rest, g, r⟩, ⟨h1, h2, hf, hcat⟩, h3, h4⟩ := zhpP_spec h
  dsimp only at h1 h2 h3 h4 hf hcat
  subst h1; subst h2; subst h3; subst h4
  refine ⟨(zl_met (b := b) (sp := sp) (cy := cy) (D := D) (sc := sc) (t := t) hl hf).1, ?_⟩
  intro p e R s m args below meth c Q cc nL own ini n0 s0 pc idx L hC hd hx1 hn hR kk
  obtain ⟨hm, hMet⟩ := zl_met (b := b) (sp := sp) (cy := cy) (D := D) (sc := sc) (t := t) hl hf
  obtain ⟨hx, hb, hml, hown, hts, hK, hold, hini, hlocks⟩ := id hC
  intro H locs ls hW hS hL
  have hGW : GoodIn zTs (va_wsS (zRN own) idx yL_person zLw) := by
    intro w hw
    have hg : ∀ w ∈ zTs, w ∈ zTs ∧ _ := fun w h => ⟨h, good_of_word (List.mem_filter.mp h).2⟩
    unfold va_wsS at hw
    rcases List.mem_append.mp hw with h | h
    · simp only [List.mem_cons, List.not_mem_nil, or_false] at h
      rcases h with rfl | rfl | rfl
      all_goals first
        | exact hg _ (zTs_of (zX_ok hx1) rfl)
        | exact hg _ (zTs_of zw_lpS rfl)
        | exact hg _ (zTs_of zw_iniL rfl)
    · rcases List.mem_cons.mp h with h | h
      · rw [h]
        exact hg _ (zTs_of zw_lpW rfl)
      · exact hg _ h
  have hrun := vx_runSW (own := zRN own) (n := 4) (g := F0 m pc ls ((Value.ref 553 :: .int w :: .int x :: .ref 0 :: rest).map (zt b sp))) (rest := rest.map (zt b sp)) (As := ([.ref 0, .int x, .int w, .ref 553] : List Value).map (zt b sp)) (H := H) (locs := locs) (cells := zN (gm g) - n0) (slots := zS (gm g) - s0) (R := R) (e := e) (below := below) (meth := meth)
    ⟨hx, hb, hml, hown, hts⟩ hMet
    (vx_cwSW 4 hts hGW rfl rfl rfl ⟨by decide, by decide, by decide +kernel⟩ ⟨by show 15 + 1 ≤ R.frames; omega, by show 8 + (5 + 11) + 64 * 15 ≤ R.locals; omega⟩)
    ⟨zPc_blind zXX_st, fun U hU hWm => zPc_of zXX_st hC hW hS hU hWm⟩ rfl rfl hL.1 rfl (by rw [zcat_map]; show 0 + _ ≤ 8; omega) hd ⟨by omega, by omega⟩
  refine z_call hrun hS fun H1 locs1 hW1 hS1 => ?_
  have h9 := kk H1 locs1 ls hW1 hS1 hL
  rw [show zN (gm g) - n0 + (zN (gm r.2) - zN (gm g)) = zN (gm r.2) - n0 by omega, show zS (gm g) - s0 + (zS (gm r.2) - zS (gm g)) = zS (gm r.2) - s0 by omega]
  exact h9
end ZHQ
