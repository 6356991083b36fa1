/-! ===== the heap at the start of the loop is gm g0 ===== -/
theorem zc0_spec {e : zE_} {a : Nat} {M : zMem} (h : (zc0 e a M).isSome = true) : zex 20000 50 zsc0 zhp0 (zcd e) 0 (zent [.ref a] e.2.2.1) [] M = some (none, (zc0 e a M).getD zM00) := by
  unfold zc0 at h ⊢
  split at h
  · rename_i M' hM
    rw [hM]
    rfl
  · cases h
theorem zX_run (sc : zSc) (hp : zHp) : zex 20000 50 sc hp (zcd zM_X11_init) 0 (zent [.ref 0] zM_X11_init.2.2.1) [] (znew zM00 11 0 15) = some (none, zMemX) := zex_ind (by decide) (zc0_spec zcX_ok)
theorem zM_run (sc : zSc) (hp : zHp) : zex 20000 50 sc hp (zcd zM_X12_init) 0 (zent [.ref 526] zM_X12_init.2.2.1) [] (znew zMemX 12 0 48) = some (none, zMemM) := zex_ind (by decide) (zc0_spec zcM_ok)
theorem zPz_00 : zPz zM00 := fun a _ => ⟨fun _ => rfl, fun _ => rfl, fun _ _ => rfl⟩
theorem zini_all {e : zE_} {k : Nat} (he : zMt k = some e) (hk : e.2.2.2.2.2.2.1 = 2) : (zcd e).2.2.2.all (fun q => zNoSt q.2.1) = true := by
  obtain ⟨r, h5, h6⟩ := Option.bind_eq_some_iff.mp he
  exact zMt_ini r (List.mem_of_getElem? h5) e (List.mem_of_getElem? h6) hk
theorem zPz_A : zPz zMemA := by
  have h1 : zPz zMemX := zex_Pz (zini_all (e := zM_X11_init) (k := 149) rfl rfl) (zPz_new zPz_00 _ _ _) (zX_run zsc0 zhp0)
  have h2 : zPz zMemM := zex_Pz (zini_all (e := zM_X12_init) (k := 200) rfl rfl) (zPz_new h1 _ _ _) (zM_run zsc0 zhp0)
  exact zPz_new h2 _ _ _
theorem zA_1 : zMemA.1 = (554, 24438) := of_decide_eq_true (Bool.and_eq_true _ _ ▸ zchk_ok).1
theorem zA_chk {a : Nat} (ha : a < 554) : zK zMemA a = zK0 a ∧ ((zK0 a).1 < 13 → ∀ j, j < zNf (zK0 a).1 → zfv zMemA (zK0 a).1 a j = zfv (gm g0) (zK0 a).1 a j) ∧ ((zK0 a).1 = 15 ∨ (zK0 a).1 = 16 → ∀ j, j < 40 → zR zMemA a j = zR0 none a j) := by
  have h := (Bool.and_eq_true _ _ ▸ zchk_ok).2
  unfold zchk at h
  have h1 := List.all_eq_true.mp h a (List.mem_range.mpr ha)
  rw [Bool.and_eq_true] at h1
  refine ⟨of_decide_eq_true h1.1, fun hc j hj => ?_, fun hc j hj => ?_⟩
  · have h2 := h1.2
    rw [if_pos hc] at h2
    exact of_decide_eq_true (List.all_eq_true.mp h2 j (List.mem_range.mpr hj))
  · have h2 := h1.2
    rw [if_neg (by omega), if_pos hc] at h2
    exact of_decide_eq_true (List.all_eq_true.mp h2 j (List.mem_range.mpr hj))
theorem zK0_lt {a : Nat} (h : (zK0 a).1 < 99) : a < 554 := by
  by_cases q : a < 576
  · exact (by decide +kernel : ∀ a, a < 576 → (zK0 a).1 < 99 → a < 554) a q h
  · rw [zK0_big q] at h
    exact absurd h (by decide)
theorem zK0_17 : ∀ a, a < 554 → (zK0 a).1 < 18 ∧ ((zK0 a).1 = 15 ∨ (zK0 a).1 = 16 → (zK0 a).2 ≤ 40) ∧ (13 ≤ (zK0 a).1 → a ≠ 0 ∧ a ≠ 526) := by decide +kernel
theorem zstart_Wd {b : Nat} {sp : UInt32 → Nat} {cy : Nat → ClassId} {D : va_G} {H : Heap} (hW : zWd b sp cy D zMemA H) : zWd b sp cy D (gm g0) H := by
  have hn : zN zMemA = 554 := by show zMemA.1.1 = 554; rw [zA_1]
  refine ⟨by rw [hW.1, hn]; rfl, fun k hk => ?_⟩
  have hk : (zK0 k).1 < 99 := hk
  have hlt := zK0_lt hk
  obtain ⟨c1, c2, c3⟩ := zA_chk hlt
  obtain ⟨d1, d2, d3⟩ := zK0_17 k hlt
  obtain ⟨h1, h2⟩ := hW.2 k (by rw [c1]; exact hk)
  refine ⟨hlt, ?_⟩
  have he : zE b sp cy zMemA k = zE b sp cy (gm g0) k := by
    by_cases q : (zK0 k).1 < 13
    · rw [zE_obj (M := zMemA) (by rw [c1]) q, zE_obj (M := gm g0) (c := (zK0 k).1) rfl q]
      exact congrArg (fun l => Sum.inr ((zK0 k).1, l)) (List.map_congr_left fun j hj => congrArg (zt b sp) (c2 q j (List.mem_range.mp hj)))
    · obtain ⟨p1, p2, p3⟩ := zPz_A k (by rw [c1]; omega)
      obtain ⟨n0, n1⟩ := d3 (by omega)
      have hI : zI zMemA k = zI (gm g0) k := by
        funext j
        rw [p1 j]
        show 0 = gI0 k j
        unfold gI0
        rw [if_neg n0, if_neg n1]
      have hJ : zJ zMemA k = zJ (gm g0) k := by
        funext j
        rw [p2 j]
        rfl
      rcases (show (zK0 k).1 = 13 ∨ (zK0 k).1 = 14 ∨ (zK0 k).1 = 15 ∨ (zK0 k).1 = 16 ∨ (zK0 k).1 = 17 by omega) with h | h | h | h | h
      · rw [zE_13 (M := zMemA) (by rw [c1]; exact h), zE_13 (M := gm g0) h, hI, c1]; rfl
      · rw [zE_14 (M := zMemA) (by rw [c1]; exact h), zE_14 (M := gm g0) h, hI, c1]; rfl
      · have hR : zR zMemA k = zR (gm g0) k := by
          funext j
          by_cases hj : j < 40
          · exact c3 (Or.inl h) j hj
          · rw [p3 j (by rw [c1]; have := d2 (Or.inl h); omega)]
            show none = zR0 none k j
            unfold zR0
            rw [h]
            show none = if j < 4 then _ else none
            rw [if_neg (by omega)]
        rw [zE_15 (M := zMemA) (by rw [c1]; exact h), zE_15 (M := gm g0) h, hR, c1]; rfl
      · have hR : zR zMemA k = zR (gm g0) k := by
          funext j
          by_cases hj : j < 40
          · exact c3 (Or.inr h) j hj
          · rw [p3 j (by rw [c1]; have := d2 (Or.inr h); omega)]
            show none = zR0 none k j
            unfold zR0
            rw [h]
            show none = if k = 49 then (if j < 40 then _ else none) else (if j < 7 then _ else none)
            have e7 : ¬ j < 7 := by omega
            rw [if_neg hj, if_neg e7]
            split <;> rfl
        rw [zE_16 (M := zMemA) (by rw [c1]; exact h), zE_16 (M := gm g0) h, hR, c1]; rfl
      · rw [zE_17 (M := zMemA) (by rw [c1]; exact h), zE_17 (M := gm g0) h, hJ, c1]; rfl
  rw [← he]
  exact h2
