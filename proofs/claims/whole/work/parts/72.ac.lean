/-! ===== both sides: what is so of all that is kept; NIGHTS ===== -/
theorem mLf.to {nb nb' : Nat} {C : mC} {L : mL} (h : mLf nb C L) (h2 : L 53 ≤ nb') : mLf nb' C L := ⟨⟨h.1.1, h.1.2.1, h.1.2.2.1, h.1.2.2.2.1, h.1.2.2.2.2.1, h.1.2.2.2.2.2.1, h.1.2.2.2.2.2.2.1, h.1.2.2.2.2.2.2.2.1, h2⟩, h.2.1, h.2.2⟩
theorem mLf.num {nb i v : Nat} {C : mC} {L : mL} (hC : mWf C) (hi : i = 51 ∨ i = 52) (hv : v ≤ 999) (h : mLf nb C L) : mLf nb C (mSet L i v) := by
  have hP := hC.1
  have hS := hC.2.1
  obtain ⟨⟨h1, h2, h3, h4, h5, h6, h7, h8, h9⟩, k1, k2⟩ := h
  refine ⟨⟨fun p hp => by rw [mSet_n (by omega)]; exact h1 p hp, fun j q1 q2 => by rw [mSet_n (by omega)]; exact h2 j q1 q2, fun c hc => by rw [mSet_n (by omega)]; exact h3 c hc, by rw [mSet_n (by omega)]; exact h4, by rw [mSet_n (by omega)]; exact h5, by rw [mSet_n (by omega)]; exact h6, ?_, ?_, by rw [mSet_n (by omega)]; exact h9⟩, fun c hc hc2 => ?_, fun c hc => ?_⟩
  · rcases hi with rfl | rfl
    · rw [mSet_e]; exact hv
    · rw [mSet_n (by omega)]; exact h7
  · rcases hi with rfl | rfl
    · rw [mSet_n (by omega)]; exact h8
    · rw [mSet_e]; exact hv
  · rw [mSet_n (by omega), mSet_n (by omega), mSet_n (by omega)]; exact k1 c hc hc2
  · rw [mSet_n (by omega), mSet_n (by omega), mSet_n (by omega)]; exact k2 c hc
theorem mLf.wind {nb v : Nat} {C : mC} {L : mL} (hC : mWf C) (hv : v < 4) (h : mLf nb C L) : mLf nb C (mSet L 50 v) := by
  have hP := hC.1
  have hS := hC.2.1
  obtain ⟨⟨h1, h2, h3, h4, h5, h6, h7, h8, h9⟩, k1, k2⟩ := h
  refine ⟨⟨fun p hp => by rw [mSet_n (by omega)]; exact h1 p hp, fun j q1 q2 => by rw [mSet_n (by omega)]; exact h2 j q1 q2, fun c hc => by rw [mSet_n (by omega)]; exact h3 c hc, by rw [mSet_n (by omega)]; exact h4, by rw [mSet_n (by omega)]; exact h5, by rw [mSet_e]; exact hv, by rw [mSet_n (by omega)]; exact h7, by rw [mSet_n (by omega)]; exact h8, by rw [mSet_n (by omega)]; exact h9⟩, fun c hc hc2 => ?_, fun c hc => ?_⟩
  · rw [mSet_n (by omega), mSet_n (by omega), mSet_n (by omega)]; exact k1 c hc hc2
  · rw [mSet_n (by omega), mSet_n (by omega), mSet_n (by omega)]; exact k2 c hc
theorem mLf.place {nb p v : Nat} {C : mC} {L : mL} (hC : mWf C) (hp : p < C.1) (hv : v < mCells C) (h : mLf nb C L) : mLf nb C (mSet L p v) := by
  have hP := hC.1
  have hS := hC.2.1
  obtain ⟨⟨h1, h2, h3, h4, h5, h6, h7, h8, h9⟩, k1, k2⟩ := h
  refine ⟨⟨fun p' hp' => ?_, fun j q1 q2 => by rw [mSet_n (by omega)]; exact h2 j q1 q2, fun c hc => by rw [mSet_n (by omega)]; exact h3 c hc, by rw [mSet_n (by omega)]; exact h4, by rw [mSet_n (by omega)]; exact h5, by rw [mSet_n (by omega)]; exact h6, by rw [mSet_n (by omega)]; exact h7, by rw [mSet_n (by omega)]; exact h8, by rw [mSet_n (by omega)]; exact h9⟩, fun c hc hc2 => ?_, fun c hc => ?_⟩
  · by_cases q : p' = p
    · rw [q, mSet_e]; exact hv
    · rw [mSet_n q]; exact h1 p' hp'
  · rw [mSet_n (by omega), mSet_n (by omega), mSet_n (by omega)]; exact k1 c hc hc2
  · rw [mSet_n (by omega), mSet_n (by omega), mSet_n (by omega)]; exact k2 c hc
theorem mLf.turn {nb c : Nat} {C : mC} {L : mL} (hC : mWf C) (hc : c < C.2.1) (hr : (L 49).testBit c = false) (h : mLf nb C L) : mLf nb C (mSet L 48 (L 48 ^^^ (1 <<< c))) := by
  have hP := hC.1
  have hS := hC.2.1
  have hmk : (1 <<< c : Nat) < 64 := by rw [Nat.one_shiftLeft]; exact Nat.pow_lt_pow_right (by omega) (by omega : c < 6)
  have ht : ∀ d, d ≠ c → (1 <<< c : Nat).testBit d = false := fun d hd => by rw [Nat.one_shiftLeft, Nat.testBit_two_pow]; exact decide_eq_false (fun w => hd w.symm)
  obtain ⟨⟨h1, h2, h3, h4, h5, h6, h7, h8, h9⟩, k1, k2⟩ := h
  refine ⟨⟨fun p hp => by rw [mSet_n (by omega)]; exact h1 p hp, fun j q1 q2 => by rw [mSet_n (by omega)]; exact h2 j q1 q2, fun c hc => by rw [mSet_n (by omega)]; exact h3 c hc, by rw [mSet_e]; exact Nat.xor_lt_two_pow (n := 6) h4 hmk, by rw [mSet_n (by omega)]; exact h5, by rw [mSet_n (by omega)]; exact h6, by rw [mSet_n (by omega)]; exact h7, by rw [mSet_n (by omega)]; exact h8, by rw [mSet_n (by omega)]; exact h9⟩, fun d hd hd2 => ?_, fun d hd => ?_⟩
  · rw [mSet_n (by omega), mSet_e, mSet_n (by omega), Nat.testBit_xor, ht d (by omega), Bool.xor_false]; exact k1 d hd hd2
  · rw [mSet_e, mSet_n (by omega), mSet_n (by omega)]
    by_cases q : d = c
    · subst q
      exact ⟨fun w => absurd w (by rw [hr]; decide), (k2 d hd).2⟩
    · rw [Nat.testBit_xor, ht d q, Bool.xor_false]; exact k2 d hd
theorem mLz.set {C : mC} {L : mL} {i v : Nat} (hi : i < 6 ∨ 42 ≤ i) (h : mLz C L) : mLz C (mSet L i v) := fun p c hp hc hq => by rw [mSet_n (by omega)]; exact h p c hp hc hq
theorem mSet_id {L : mL} {i : Nat} : mSet L i (L i) = L := funext fun j => by
  unfold mSet
  split
  · rename_i h; rw [h]
  · rfl
def mAk (C : mC) (A : mA) : Prop := mLf 999 C A.1 ∧ mLz C A.1 ∧ mCh C (A.1 53) A.2.2.1 ∧ (∀ q, q ∈ A.2.2.1 → mLz C q.1) ∧ A.2.2.1.length ≤ 40 ∧ ∀ L n E, A.2.2.2.1 = some (L, n, E) → n = L 53 ∧ mLf 999 C L ∧ mLz C L
theorem mAk.q {C : mC} {A : mA} (hC : mWf C) (h : mAk C A) : vQ C A.1 := ⟨hC, h.1, h.2.1⟩
theorem mAk.ref {C : mC} {A : mA} {k : Nat} (h : mAk C A) : mAk C (mRef A k) := h
theorem mAk.now {C : mC} {A : mA} {L' : mL} (h : mAk C A) (h1 : mLf 999 C L') (h2 : mLz C L') (h3 : L' 53 = A.1 53) : mAk C (L', A.2) := ⟨h1, h2, by rw [show ((L', A.2) : mA).1 53 = A.1 53 from h3]; exact h.2.2.1, h.2.2.2.1, h.2.2.2.2.1, h.2.2.2.2.2⟩
theorem mCh_take {C : mC} : ∀ (U : mU) (n k : Nat), mCh C n U → mCh C n (U.take k)
  | [], _, k, _ => by rw [List.take_nil]; trivial
  | (L, m) :: U, n, 0, _ => trivial
  | (L, m) :: U, n, k + 1, h => ⟨h.1, h.2.1, h.2.2.1, h.2.2.2.1, mCh_take U m k h.2.2.2.2⟩
theorem mAk.push {C : mC} {A : mA} (h : mAk C A) : mAk C (mPush A A.1) := by
  obtain ⟨h1, h2, h3, h4, h5, h6⟩ := h
  refine ⟨h1, h2, mCh_take ((A.1, A.1 53) :: A.2.2.1) _ 40 ⟨Nat.le_refl _, Nat.le_succ _, h1, rfl, h3⟩, fun q hq => ?_, by show (List.take 40 _).length ≤ 40; rw [List.length_take]; omega, h6⟩
  rcases List.mem_cons.mp (List.mem_of_mem_take hq) with rfl | hq
  · exact h2
  · exact h4 q hq
theorem mAk.pushed {C : mC} {A : mA} {L' : mL} (h : mAk C A) (h1 : mLf 999 C L') (h2 : mLz C L') (h3 : L' 53 = A.1 53) : mAk C (L', (mPush A A.1).2) := h.push.now h1 h2 h3
def mStep (C : mC) (lw : mLaw) (A : mA) : mA := mNg C lw (mPush A A.1)
theorem mAk.night {C : mC} {lw : mLaw} {A : mA} (hC : mWf C) (h53 : A.1 53 + 1 ≤ 999) (h : mAk C A) (hhd : ∀ L0 m0 U0, A.2.2.1 = (L0, m0) :: U0 → m0 = A.1 53) : mAk C (mNg C lw A) := by
  obtain ⟨h1, h2, h3, h4, h5, h6⟩ := h
  have e53 : mNight C lw A.1 53 = A.1 53 + 1 := mNight_53
  refine ⟨(mNight_lf (lw := lw) hC h1).to (by rw [e53]; exact h53), mNight_z hC h2, ?_, h4, h5, h6⟩
  show mCh C (mNight C lw A.1 53) A.2.2.1
  rw [e53]
  cases hu : A.2.2.1 with
  | nil => trivial
  | cons q U =>
    obtain ⟨L, m⟩ := q
    have hm := hhd L m U hu
    rw [hu] at h3
    exact ⟨by omega, by omega, h3.2.2.1, h3.2.2.2.1, h3.2.2.2.2⟩
theorem mPush_hd {A : mA} : ∀ L0 m0 U0, (mPush A A.1).2.2.1 = (L0, m0) :: U0 → m0 = (mPush A A.1).1 53 := fun L0 m0 U0 e => by
  have ze2 : (A.1, A.1 53) :: A.2.2.1.take 39 = (L0, m0) :: U0 := e
  have ze3 := (List.cons.inj ze2).1
  exact (congrArg Prod.snd ze3).symm
/-- what an ACT may change -/
def sFX (a k : Nat) : Prop := (38 ≤ a ∧ a ≤ 422) ∨ SX a k ∨ (a = 0 ∧ k = 14)
def sFM (a k : Nat) : Prop := SY a k ∨ a = 543 ∨ a = 544 ∨ a = 547 ∨ a = 552 ∨ (a = 526 ∧ (k = 35 ∨ k = 36 ∨ k = 47))
theorem sFX_A {a k : Nat} (h : sAX a k) : sFX a k := by unfold sAX at h; unfold sFX; omega
theorem sFM_A {a k : Nat} (h : sAM a k) : sFM a k := by unfold sAM at h; unfold sFM; omega
theorem sFX_N {a k : Nat} (h : sNX a k) : sFX a k := by unfold sNX sP sN sW at h; unfold sFX SX; omega
theorem sFM_N {a k : Nat} (h : sMp a k) : sFM a k := by unfold sMp sV at h; unfold sFM SY; omega
section AC
variable {C : mC} {lw : mLaw} {A : mA} {g : zSg}
def mNs (C : mC) (lw : mLaw) (A : mA) : Nat → mA
  | 0 => A
  | k + 1 => mStep C lw (mNs C lw A k)
theorem mNs_ok (hC : mWf C) (h : mAk C A) : ∀ k, A.1 53 + k ≤ 999 → mAk C (mNs C lw A k) ∧ (mNs C lw A k).1 53 = A.1 53 + k
  | 0, _ => ⟨h, rfl⟩
  | k + 1, hk => by
    obtain ⟨h1, h2⟩ := mNs_ok hC h k (by omega)
    have e53 : (mPush (mNs C lw A k) (mNs C lw A k).1).1 53 = A.1 53 + k := h2
    refine ⟨h1.push.night (lw := lw) hC (by rw [e53]; omega) mPush_hd, ?_⟩
    show mNight C lw (mNs C lw A k).1 53 = _
    rw [mNight_53, h2]
    omega
theorem vAX.step (hC : mWf C) (h0 : 0 < C.1) (hA : mAk C A) (h : vAX C lw A g) : ∃ g1 g2, f_X6_remember 39 g = some ((), g1) ∧ f_X11_passNight g1 = some ((), g2) ∧ vAX C lw (mStep C lw A) g2 ∧ qF sFX g g2 := by
  obtain ⟨g1, ze1, h1, f1⟩ := h.push
  have hp := hA.push
  obtain ⟨g2, ze2, h2, f2⟩ := h1.night hC h0 hp.1 hp.2.2.1 mPush_hd
  exact ⟨g1, g2, ze1, ze2, h2, (f1.mono fun a k w => sFX_A w).tr (f2.mono fun a k w => sFX_N w)⟩
theorem vAM.step (hC : mWf C) (h0 : 0 < C.1) (hA : mAk C A) (h : vAM C lw A g) : ∃ g1 g2, f_X12_keep g = some ((), g1) ∧ f_X12_passNight g1 = some ((), g2) ∧ vAM C lw (mStep C lw A) g2 ∧ qF sFM g g2 := by
  obtain ⟨g1, ze1, h1, f1⟩ := h.push hA.2.2.2.2.1
  have hp := hA.push
  obtain ⟨g2, ze2, h2, f2⟩ := h1.night hC h0 hp.1 hp.2.2.1
  exact ⟨g1, g2, ze1, ze2, h2, (f1.mono fun a k w => sFM_A w).tr (f2.mono fun a k w => sFM_N w)⟩
theorem vAX.v53 (h : vAX C lw A g) : g.2.1 39 9 = Int32.ofNat (A.1 53) := h.2.2.1.1.1.2.2.2.2.2.2.2
theorem x_nights_l {n : Nat} (hC : mWf C) (h0 : 0 < C.1) (hA : mAk C A) (hn : n ≤ 60) (h53 : A.1 53 + n ≤ 999) (h : vAX C lw A g) : ∃ g', f_X11_nights_56 zFu (Int32.ofNat n) 0 g = some (Int32.ofNat (A.1 53 + n), g') ∧ vAX C lw (mNs C lw A n) g' ∧ qF sFX g g' := by
  refine q_loop (F := fun m k g => f_X11_nights_56 m (Int32.ofNat n) (Int32.ofNat k) g) (N := n) (Inv := fun k g1 => vAX C lw (mNs C lw A k) g1 ∧ qF sFX g g1) (R := fun o => ∃ g', o = some (Int32.ofNat (A.1 53 + n), g') ∧ vAX C lw (mNs C lw A n) g' ∧ qF sFX g g') (by omega) ?_ ?_ (s := 0) (by omega) ⟨h, qF.rfl'⟩
  · intro m g1 ⟨h1, f1⟩
    refine ⟨g1, ?_, h1, f1⟩
    show fb_X11_nights_56 _ (Int32.ofNat n) (Int32.ofNat n) g1 = _
    unfold fb_X11_nights_56 f_X11_nights_82
    rw [if_pos (show Int32.ofNat n ≤ Int32.ofNat n by rw [qi_le (by omega) (by omega)]; exact Nat.le_refl n), show gI g1 39 9 = Int32.ofNat ((mNs C lw A n).1 53) from h1.v53, (mNs_ok (lw := lw) hC hA n h53).2]
  · intro m k g1 hk ⟨h1, f1⟩ ih
    have ho := (mNs_ok (lw := lw) hC hA k (by omega)).1
    obtain ⟨g2, g3, ze1, ze2, h3, f3⟩ := h1.step hC h0 ho
    show ∃ g', fb_X11_nights_56 _ (Int32.ofNat n) (Int32.ofNat k) g1 = _ ∧ _
    unfold fb_X11_nights_56
    rw [if_neg (show ¬ Int32.ofNat n ≤ Int32.ofNat k by rw [qi_le (by omega) (by omega)]; omega), ze1, qB_s, ze2, qB_s, show Int32.ofNat k + 1 = Int32.ofNat (k + 1) from qi_add k 1]
    exact ih g3 ⟨h3, f1.tr f3⟩
theorem m_nights_l {n : Nat} (hC : mWf C) (h0 : 0 < C.1) (hA : mAk C A) (hn : n ≤ 60) (h53 : A.1 53 + n ≤ 999) (h : vAM C lw A g) : ∃ g', f_X12_nights_49 zFu (Int32.ofNat n) 0 g = some (Int32.ofNat (A.1 53 + n), g') ∧ vAM C lw (mNs C lw A n) g' ∧ qF sFM g g' := by
  refine q_loop (F := fun m k g => f_X12_nights_49 m (Int32.ofNat n) (Int32.ofNat k) g) (N := n) (Inv := fun k g1 => vAM C lw (mNs C lw A k) g1 ∧ qF sFM g g1) (R := fun o => ∃ g', o = some (Int32.ofNat (A.1 53 + n), g') ∧ vAM C lw (mNs C lw A n) g' ∧ qF sFM g g') (by omega) ?_ ?_ (s := 0) (by omega) ⟨h, qF.rfl'⟩
  · intro m g1 ⟨h1, f1⟩
    refine ⟨g1, ?_, h1, f1⟩
    show fb_X12_nights_49 _ (Int32.ofNat n) (Int32.ofNat n) g1 = _
    unfold fb_X12_nights_49 f_X12_nights_68
    rw [if_pos (show Int32.ofNat n ≤ Int32.ofNat n by rw [qi_le (by omega) (by omega)]; exact Nat.le_refl n), show gI g1 543 53 = Int32.ofNat ((mNs C lw A n).1 53) from h1.vi (by omega), (mNs_ok (lw := lw) hC hA n h53).2]
  · intro m k g1 hk ⟨h1, f1⟩ ih
    have ho := (mNs_ok (lw := lw) hC hA k (by omega)).1
    obtain ⟨g2, g3, ze1, ze2, h3, f3⟩ := h1.step hC h0 ho
    show ∃ g', fb_X12_nights_49 _ (Int32.ofNat n) (Int32.ofNat k) g1 = _ ∧ _
    unfold fb_X12_nights_49
    rw [if_neg (show ¬ Int32.ofNat n ≤ Int32.ofNat k by rw [qi_le (by omega) (by omega)]; omega), ze1, qB_s, ze2, qB_s, show Int32.ofNat k + 1 = Int32.ofNat (k + 1) from qi_add k 1]
    exact ih g3 ⟨h3, f1.tr f3⟩
theorem d_nights (hC : mWf C) (hA : mAk C A) (x : Int32) : ∃ v A', mAk C A' ∧ (∀ g, vAX C lw A g → ∃ g', f_X11_nights x g = some (v, g') ∧ vAX C lw A' g' ∧ qF sFX g g') ∧ (∀ g, vAM C lw A g → ∃ g', f_X12_nights x g = some (v, g') ∧ vAM C lw A' g' ∧ qF sFM g g') := by
  have hP := hC.1
  have h30 := hC.cells
  have hz := (hA.q hC).cells0
  have h53 : A.1 53 ≤ 999 := hA.1.1.2.2.2.2.2.2.2.2
  have refX : ∀ (k : Nat) (g : zSg), k < 5 → vAX C lw A g → ∃ g', (zB (f_X11_refuse (Int32.ofNat k) g) (fun v1 g2 => some (v1, g2))) = some (-1, g') ∧ vAX C lw (mRef A k) g' ∧ qF sFX g g' := fun k g hk h => by
    obtain ⟨g', ze, h', f⟩ := h.refz hk
    exact ⟨g', ze, h', f.mono fun a k w => sFX_A w⟩
  have refM : ∀ (k : Nat) (y : Int32) (g : zSg), k < 5 → vAM C lw A g → ∃ g', f_X12_nights_39 y (Int32.ofNat k) g = some (-1, g') ∧ vAM C lw (mRef A k) g' ∧ qF sFM g g' := fun k y g hk h => by
    obtain ⟨g', ze, h', f⟩ := h.ref hk
    refine ⟨g', ?_, h', f.mono fun a k w => sFM_A w⟩
    unfold f_X12_nights_39
    rw [ze, qB_s, if_neg (by decide)]
  by_cases h0 : 0 < C.1
  · have hz1 : ¬ Int32.ofNat (mCells C) = (0 : Int32) := by
      rw [show (0 : Int32) = Int32.ofNat 0 from rfl, qi_inj (by omega) (by omega)]
      exact fun w => hz.mp w h0
    rcases q_rng (x := x) (hi := 60) (by omega) with ⟨k, k1, k2, rfl⟩ | hx
    · have c1 : ¬ Int32.ofNat k < (1 : Int32) := by rw [show (1 : Int32) = Int32.ofNat 1 from rfl, qi_lt (by omega) (by omega)]; omega
      have c2 : Int32.ofNat k ≤ (60 : Int32) := by rw [show (60 : Int32) = Int32.ofNat 60 from rfl, qi_le (by omega) (by omega)]; omega
      have c2' : ¬ (60 : Int32) < Int32.ofNat k := by rw [show (60 : Int32) = Int32.ofNat 60 from rfl, qi_lt (by omega) (by omega)]; omega
      have i1 : ∀ g, f_X12_in (Int32.ofNat k) 1 60 g = some (1, g) := fun g => by unfold f_X12_in; rw [if_neg c1, if_neg c2']
      have es : Int32.ofNat (A.1 53) + Int32.ofNat k = Int32.ofNat (A.1 53 + k) := qi_add _ _
      by_cases q : A.1 53 + k ≤ 999
      · have d1 : Int32.ofNat (A.1 53 + k) ≤ (999 : Int32) := by rw [show (999 : Int32) = Int32.ofNat 999 from rfl, qi_le (by omega) (by omega)]; exact q
        have d2 : ¬ (999 : Int32) < Int32.ofNat (A.1 53 + k) := by rw [show (999 : Int32) = Int32.ofNat 999 from rfl, qi_lt (by omega) (by omega)]; omega
        refine ⟨Int32.ofNat (A.1 53 + k), mNs C lw A k, (mNs_ok hC hA k q).1, fun g hg => ?_, fun g hg => ?_⟩
        · obtain ⟨g', ze, h', f⟩ := x_nights_l hC h0 hA k2 q hg
          refine ⟨g', ?_, h', f⟩
          unfold f_X11_nights
          rw [x_isTold hg.1 hP, if_pos h0, qB_s, if_pos (by decide), if_neg c1, if_pos c2, show gI g 39 9 = Int32.ofNat (A.1 53) from hg.v53, es, if_pos d1]
          exact ze
        · obtain ⟨g', ze, h', f⟩ := m_nights_l hC h0 hA k2 q hg
          refine ⟨g', ?_, h', f⟩
          unfold f_X12_nights f_X12_areNights f_X12_nights_39
          rw [show gI g 526 27 = Int32.ofNat (mCells C) from hg.v27, if_pos hz1, i1, qB_s, if_pos (by decide), i1, qB_s, if_neg (by decide), show gI g 543 53 = Int32.ofNat (A.1 53) from hg.vi (by omega), es, if_neg d2, qB_s, if_pos (by decide), m_refused0, qB_s, if_pos rfl]
          exact ze
      · have d1 : ¬ Int32.ofNat (A.1 53 + k) ≤ (999 : Int32) := by rw [show (999 : Int32) = Int32.ofNat 999 from rfl, qi_le (by omega) (by omega)]; exact q
        have d2 : (999 : Int32) < Int32.ofNat (A.1 53 + k) := by rw [show (999 : Int32) = Int32.ofNat 999 from rfl, qi_lt (by omega) (by omega)]; omega
        refine ⟨-1, mRef A 4, hA, fun g hg => ?_, fun g hg => ?_⟩
        · unfold f_X11_nights
          rw [x_isTold hg.1 hP, if_pos h0, qB_s, if_pos (by decide), if_neg c1, if_pos c2, show gI g 39 9 = Int32.ofNat (A.1 53) from hg.v53, es, if_neg d1]
          exact refX 4 g (by omega) hg
        · unfold f_X12_nights f_X12_areNights
          rw [show gI g 526 27 = Int32.ofNat (mCells C) from hg.v27, if_pos hz1, i1, qB_s, if_pos (by decide), i1, qB_s, if_neg (by decide), show gI g 543 53 = Int32.ofNat (A.1 53) from hg.vi (by omega), es, if_pos d2, qB_s, if_neg (by decide)]
          exact refM 4 _ g (by omega) hg
    · refine ⟨-1, mRef A 1, hA, fun g hg => ?_, fun g hg => ?_⟩
      · have key := refX 1 g (by omega) hg
        unfold f_X11_nights f_X11_nights_27
        rw [x_isTold hg.1 hP, if_pos h0, qB_s, if_pos (by decide)]
        rcases hx with hx | ⟨hx1, hx2⟩
        · rw [if_pos hx]; exact key
        · rw [if_neg hx1, if_neg (show ¬ x ≤ (60 : Int32) from Int32.not_le.mpr hx2)]; exact key
      · have key := refM 1 x g (by omega) hg
        unfold f_X12_nights f_X12_in
        rw [show gI g 526 27 = Int32.ofNat (mCells C) from hg.v27, if_pos hz1]
        rcases hx with hx | ⟨hx1, hx2⟩
        · rw [if_pos hx, qB_s, if_neg (by decide)]; exact key
        · rw [if_neg hx1, if_pos (show (60 : Int32) < x from hx2), qB_s, if_neg (by decide)]; exact key
  · have hz1 : Int32.ofNat (mCells C) = (0 : Int32) := by rw [hz.mpr h0]; rfl
    refine ⟨-1, mRef A 0, hA, fun g hg => ?_, fun g hg => ?_⟩
    · unfold f_X11_nights
      rw [x_isTold hg.1 hP, if_neg h0, qB_s, if_neg (by decide)]
      exact refX 0 g (by omega) hg
    · unfold f_X12_nights
      rw [show gI g 526 27 = Int32.ofNat (mCells C) from hg.v27, if_neg (fun w => w hz1)]
      exact refM 0 _ g (by omega) hg
end AC
