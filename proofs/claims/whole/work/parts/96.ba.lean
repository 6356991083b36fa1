/-! ===== the calls: ACTS ===== -/
theorem c_give (x : Int32) : dC (f_X11_give x) (f_X12_give x) := dC.a fun C A lw gu hC hA => by
  obtain ⟨v, A', h1, hx, hm⟩ := d_give (lw := lw) hC hA.1.1.2.2.2.2.2.2.2.1 hA.2.2.2.2.1 (hA.q hC).cells0 x
  refine ⟨v, A', ?_, fun g hg _ => ?_, fun g hg _ => ?_⟩
  · rcases h1 with rfl | rfl | ⟨k, hk, rfl⟩
    · exact hA.ref
    · exact hA.ref
    · exact hA.pushed (hA.1.num hC (Or.inr rfl) hk) (hA.2.1.set (by omega)) (mSet_n (by omega))
  · obtain ⟨g', ze, r, f⟩ := hx g hg
    exact ⟨g', ze, r, f.mono fun a k w => sFX_A w⟩
  · obtain ⟨g', ze, r, f⟩ := hm g hg
    exact ⟨g', ze, r, f.mono fun a k w => sFM_A w⟩
theorem c_veers (x : Int32) : dC (f_X11_veers x) (f_X12_veers x) := dC.a fun C A lw gu hC hA => by
  obtain ⟨v, A', h1, hx, hm⟩ := d_veers (lw := lw) hC hA.1.1.2.2.2.2.2.1 hA.2.2.2.2.1 (hA.q hC).cells0 x
  refine ⟨v, A', ?_, fun g hg _ => ?_, fun g hg _ => ?_⟩
  · rcases h1 with ⟨k, hk, rfl⟩ | ⟨k, hk, rfl⟩
    · exact hA.ref
    · exact hA.pushed (hA.1.wind hC hk) (hA.2.1.set (by omega)) (mSet_n (by omega))
  · obtain ⟨g', ze, r, f⟩ := hx g hg
    exact ⟨g', ze, r, f.mono fun a k w => sFX_A w⟩
  · obtain ⟨g', ze, r, f⟩ := hm g hg
    exact ⟨g', ze, r, f.mono fun a k w => sFM_A w⟩
theorem c_oak (x : Int32) : dC (f_X11_oak x) (f_X12_oak x) := dC.a fun C A lw gu hC hA => by
  obtain ⟨v, A', h1, hx, hm⟩ := d_oak (lw := lw) hC hA.1.1.2.2.2.2.2.2.1 hA.1.1.2.2.2.2.2.2.2.1 hA.2.2.2.2.1 (hA.q hC).cells0 x
  refine ⟨v, A', ?_, fun g hg _ => ?_, fun g hg _ => ?_⟩
  · rcases h1 with ⟨k, hk, rfl⟩ | ⟨a, b, ha, hb, rfl⟩
    · exact hA.ref
    · exact hA.pushed ((hA.1.num hC (Or.inr rfl) ha).num hC (Or.inl rfl) hb) ((hA.2.1.set (by omega)).set (by omega)) ((mSet_n (by omega)).trans (mSet_n (by omega)))
  · obtain ⟨g', ze, r, f⟩ := hx g hg
    exact ⟨g', ze, r, f.mono fun a k w => sFX_A w⟩
  · obtain ⟨g', ze, r, f⟩ := hm g hg
    exact ⟨g', ze, r, f.mono fun a k w => sFM_A w⟩
theorem c_hang (x : Int32) : dC (f_X11_hang x) (f_X12_hang x) := dC.a fun C A lw gu hC hA => by
  obtain ⟨v, A', h1, hx, hm⟩ := d_hang (lw := lw) hC hA.1.1.2.2.2.1 hA.1.1.2.2.2.2.1 hA.1.1.2.2.2.2.2.2.2.1 hA.2.2.2.2.1 x
  refine ⟨v, A', ?_, fun g hg _ => ?_, fun g hg _ => ?_⟩
  · rcases h1 with ⟨k, hk, rfl⟩ | ⟨c, a, hc, hr, ha, rfl⟩
    · exact hA.ref
    · have q := (hA.1.num hC (Or.inr rfl) ha).turn hC hc (by rw [mSet_n (by omega)]; exact hr)
      rw [show mSet A.1 52 a 48 = A.1 48 from mSet_n (by omega)] at q
      exact hA.pushed q ((hA.2.1.set (by omega)).set (by omega)) ((mSet_n (by omega)).trans (mSet_n (by omega)))
  · obtain ⟨g', ze, r, f⟩ := hx g hg
    exact ⟨g', ze, r, f.mono fun a k w => sFX_A w⟩
  · obtain ⟨g', ze, r, f⟩ := hm g hg
    exact ⟨g', ze, r, f.mono fun a k w => sFM_A w⟩
theorem c_moves (x y : Int32) : dC (f_X11_moves x y) (f_X12_moves x y) := dC.a fun C A lw gu hC hA => by
  obtain ⟨v, A', h1, hx, hm⟩ := d_moves (lw := lw) hC hA.1.1.1 hA.1.1.2.2.2.2.2.2.2.1 hA.2.2.2.2.1 x y
  refine ⟨v, A', ?_, fun g hg _ => ?_, fun g hg _ => ?_⟩
  · rcases h1 with ⟨k, hk, rfl⟩ | ⟨p, l, a, hp, hl, ha, rfl⟩
    · exact hA.ref
    · have hP := hC.1
      exact hA.pushed ((hA.1.num hC (Or.inr rfl) ha).place hC hp hl) ((hA.2.1.set (by omega)).set (by omega)) ((mSet_n (by omega)).trans (mSet_n (by omega)))
  · obtain ⟨g', ze, r, f⟩ := hx g hg
    exact ⟨g', ze, r, f.mono fun a k w => sFX_A w⟩
  · obtain ⟨g', ze, r, f⟩ := hm g hg
    exact ⟨g', ze, r, f.mono fun a k w => sFM_A w⟩
theorem c_undo : dC f_X11_undo f_X12_undo := dC.a fun C A lw gu hC hA => by
  have hch := hA.2.2.1
  obtain ⟨v, A', h1, hx, hm⟩ := d_undo (C := C) (lw := lw) A hA.2.2.2.2.1 (fun L m U e => by
    rw [e] at hch
    exact hch.2.2.2.1.symm)
  refine ⟨v, A', ?_, fun g hg _ => ?_, fun g hg _ => ?_⟩
  · rcases h1 with ⟨-, rfl⟩ | ⟨L, m, U, e, rfl⟩
    · exact hA
    · obtain ⟨k1, k2, k3, k4, k5, k6⟩ := hA
      rw [e] at k3 k4 k5
      obtain ⟨q1, q2, q3, q4, q5⟩ := k3
      refine ⟨q3, k4 _ (List.mem_cons.mpr (Or.inl rfl)), ?_, fun q hq => k4 q (List.mem_cons.mpr (Or.inr hq)), ?_, k6⟩
      · show mCh C (L 53) U
        rw [q4]
        exact q5
      · show U.length ≤ 40
        rw [List.length_cons] at k5
        omega
  · obtain ⟨g', ze, r, f⟩ := hx g hg
    exact ⟨g', ze, r, f.mono fun a k w => sFX_A w⟩
  · obtain ⟨g', ze, r, f⟩ := hm g hg
    exact ⟨g', ze, r, f.mono fun a k w => sFM_A w⟩
theorem c_image : dC f_X11_image f_X12_image := dC.a fun C A lw gu hC hA => by
  obtain ⟨v, A', h1, hx, hm⟩ := d_image (lw := lw) hC A (hA.q hC).cells0
  refine ⟨v, A', ?_, fun g hg _ => ?_, fun g hg _ => ?_⟩
  · rcases h1 with rfl | rfl
    · exact hA
    · obtain ⟨k1, k2, k3, k4, k5, k6⟩ := hA
      refine ⟨k1, k2, k3, k4, k5, fun L n E e => ?_⟩
      have e2 : (A.1, A.1 53, A.2.1) = (L, n, E) := Option.some.inj e
      have e3 : A.1 = L := congrArg Prod.fst e2
      have e4 : A.1 53 = n := congrArg (fun q => q.2.1) e2
      rw [← e3]
      exact ⟨e4.symm, k1, k2⟩
  · obtain ⟨g', ze, r, f⟩ := hx g hg
    exact ⟨g', ze, r, f.mono fun a k w => sFX_A w⟩
  · obtain ⟨g', ze, r, f⟩ := hm g hg
    exact ⟨g', ze, r, f.mono fun a k w => by unfold sBM sAM at w; unfold sFM; omega⟩
theorem c_back : dC f_X11_back f_X12_back := dC.a fun C A lw gu hC hA => by
  obtain ⟨v, A', h1, hx, hm⟩ := d_back (C := C) (lw := lw) A (fun L n E e => (hA.2.2.2.2.2 L n E e).1)
  refine ⟨v, A', ?_, fun g hg _ => ?_, fun g hg _ => ?_⟩
  · rcases h1 with ⟨-, rfl⟩ | ⟨L, n, E, e, rfl⟩
    · exact hA
    · obtain ⟨q1, q2, q3⟩ := hA.2.2.2.2.2 L n E e
      exact ⟨q2, q3, trivial, fun q hq => (by cases hq), Nat.zero_le _, hA.2.2.2.2.2⟩
  · obtain ⟨g', ze, r, f⟩ := hx g hg
    exact ⟨g', ze, r, f.mono fun a k w => sFX_A w⟩
  · obtain ⟨g', ze, r, f⟩ := hm g hg
    exact ⟨g', ze, r, f.mono fun a k w => sFM_A w⟩
theorem c_nights (x : Int32) : dC (f_X11_nights x) (f_X12_nights x) := dC.a fun C A lw gu hC hA => by
  obtain ⟨v, A', h1, hx, hm⟩ := d_nights (lw := lw) hC hA x
  exact ⟨v, A', h1, fun g hg _ => hx g hg, fun g hg _ => hm g hg⟩
theorem c_years (x : Int32) (J : Int64) : dC (f_X11_years x J) (f_X12_years x J) := dC.a fun C A lw gu hC hA => d_years (lw := lw) hC hA gu x J
theorem c_status (x : Int32) : dC (f_X11_status x) (f_X12_status x) := dC.a fun C A lw gu hC hA => by
  obtain ⟨v, hx, hm⟩ := d_status A.2.2.2.2 x
  exact ⟨v, A, hA, fun g hg _ => ⟨g, hx g hg.2.2.2, hg, qF.rfl'⟩, fun g hg _ => ⟨g, hm g hg.2.2.2.2.2.2, hg, qF.rfl'⟩⟩
theorem c_log (x y : Int32) : dC (f_X11_log x y) (f_X12_log x y) := dC.a fun C A lw gu hC hA => by
  obtain ⟨v, hx, hm⟩ := d_log (C := C) (lw := lw) (A := A) hA.1.1.2.2.2.2.2.2.2.2 x y
  exact ⟨v, A, hA, fun g hg _ => ⟨g, hx g hg, hg, qF.rfl'⟩, fun g hg _ => ⟨g, hm g hg, hg, qF.rfl'⟩⟩
