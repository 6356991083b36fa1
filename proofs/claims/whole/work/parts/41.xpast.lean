/-! ===== the class: what is kept: States become others, the LOG, ACTS, the IMAGE ===== -/
theorem x_becS {a b : Nat} {g : zSg} (ha : (zK0 a).1 = 8) (hb : (zK0 b).1 = 8) (hab : a + 8 < b ∨ b + 8 < a) : ∃ g', f_X8_become a b g = some ((), g') ∧ (∀ j, j < 6 → g'.2.1 (a + 2) j = g.2.1 (b + 2) j) ∧ (∀ j, j < 6 → g'.2.1 (a + 4) j = g.2.1 (b + 4) j) ∧ (∀ j, j < 6 → g'.2.1 (a + 6) j = g.2.1 (b + 6) j) ∧ (∀ j, j < 36 → g'.2.1 (a + 8) j = g.2.1 (b + 8) j) ∧ (∀ k, 4 ≤ k → k ≤ 10 → g'.2.1 a k = g.2.1 b k) ∧ qF (fun c _ => a ≤ c ∧ c ≤ a + 8) g g' := by
  obtain ⟨a1, a2, a3, a4⟩ := zK0_6 ha
  obtain ⟨b1, b2, b3, b4⟩ := zK0_6 hb
  obtain ⟨g1, ze1, c1, f1⟩ := q_bec (a := a + 1) (b := b + 1) (n := 6) (g := g) a1 b1 (by omega)
  obtain ⟨g2, ze2, c2, f2⟩ := q_bec (a := a + 3) (b := b + 3) (n := 6) (g := g1) a2 b2 (by omega)
  obtain ⟨g3, ze3, c3, f3⟩ := q_bec (a := a + 5) (b := b + 5) (n := 6) (g := g2) a3 b3 (by omega)
  obtain ⟨g4, ze4, c4, f4⟩ := q_bec (a := a + 7) (b := b + 7) (n := 36) (g := g3) a4 b4 (by omega)
  have old : ∀ c j, (c < a + 2 ∨ a + 8 < c) → g4.2.1 c j = g.2.1 c j := fun c j hc => by
    rw [f4.2.1 _ _ (by omega), f3.2.1 _ _ (by omega), f2.2.1 _ _ (by omega), f1.2.1 _ _ (by omega)]
  unfold f_X8_become
  simp only [ze1, zB, ze2, ze3, ze4]
  simp (disch := omega) only [qs_In]
  refine ⟨_, rfl, fun j hj => ?_, fun j hj => ?_, fun j hj => ?_, fun j hj => ?_, fun k hk hk2 => ?_, ?_⟩
  · simp (disch := omega) only [qs_In]
    rw [f4.2.1 _ _ (by omega), f3.2.1 _ _ (by omega), f2.2.1 _ _ (by omega)]
    exact c1 j hj
  · simp (disch := omega) only [qs_In]
    rw [f4.2.1 _ _ (by omega), f3.2.1 _ _ (by omega)]
    exact (c2 j hj).trans (f1.2.1 _ _ (by omega))
  · simp (disch := omega) only [qs_In]
    rw [f4.2.1 _ _ (by omega)]
    exact (c3 j hj).trans ((f2.2.1 _ _ (by omega)).trans (f1.2.1 _ _ (by omega)))
  · simp (disch := omega) only [qs_In]
    exact (c4 j hj).trans ((f3.2.1 _ _ (by omega)).trans ((f2.2.1 _ _ (by omega)).trans (f1.2.1 _ _ (by omega))))
  · rcases (show k = 4 ∨ k = 5 ∨ k = 6 ∨ k = 7 ∨ k = 8 ∨ k = 9 ∨ k = 10 by omega) with rfl | rfl | rfl | rfl | rfl | rfl | rfl <;>
    simp (disch := omega) only [qs_In, qs_Ie] <;> exact old _ _ (by omega)
  · have F : qF (fun c _ => a ≤ c ∧ c ≤ a + 8) g g4 := (((f1.mono fun c k q => by omega).tr (f2.mono fun c k q => by omega)).tr (f3.mono fun c k q => by omega)).tr (f4.mono fun c k q => by omega)
    exact ((((((F.sI ⟨by omega, by omega⟩).sI ⟨by omega, by omega⟩).sI ⟨by omega, by omega⟩).sI ⟨by omega, by omega⟩).sI ⟨by omega, by omega⟩).sI ⟨by omega, by omega⟩).sI ⟨by omega, by omega⟩
/-- a State whole: how it is, how many rows of the LOG -/
def vSt (a : Nat) (C : mC) (L : mL) (n : Nat) (g : zSg) : Prop := vS8 a L g ∧ vBr a 63 C L g ∧ g.2.1 a 10 = Int32.ofNat n
theorem vSt.fr {a n : Nat} {C : mC} {L : mL} {g g' : zSg} {S : Nat → Nat → Prop} (h : vSt a C L n g) (hf : qF S g g') (hS : ∀ b k, a ≤ b → b ≤ a + 8 → ¬ S b k) : vSt a C L n g' :=
  ⟨h.1.fr hf hS, h.2.1.fr hf hS, (hf.2.1 _ _ (hS _ _ (by omega) (by omega))).trans h.2.2⟩
theorem x_bec {a b n : Nat} {C : mC} {L : mL} {g : zSg} (ha : (zK0 a).1 = 8) (hb : (zK0 b).1 = 8) (hab : a + 8 < b ∨ b + 8 < a) (h : vSt b C L n g) : ∃ g', f_X8_become a b g = some ((), g') ∧ vSt a C L n g' ∧ qF (fun c _ => a ≤ c ∧ c ≤ a + 8) g g' := by
  obtain ⟨g', ze, c1, c2, c3, c4, c5, hf⟩ := x_becS (g := g) ha hb hab
  obtain ⟨⟨s1, s2, s3, s4, s5, s6, s7, s8⟩, hbr, hn⟩ := h
  refine ⟨g', ze, ⟨⟨fun p hp => (c1 p hp).trans (s1 p hp), fun c hc => (c2 c hc).trans (s2 c hc), (c5 4 (by omega) (by omega)).trans s3, (c5 5 (by omega) (by omega)).trans s4, (c5 6 (by omega) (by omega)).trans s5, (c5 7 (by omega) (by omega)).trans s6, (c5 8 (by omega) (by omega)).trans s7, (c5 9 (by omega) (by omega)).trans s8⟩, fun c hc hm => ⟨(c3 c hc).trans (hbr c hc hm).1, fun p hp => (c4 _ (by omega)).trans ((hbr c hc hm).2 p hp)⟩, (c5 10 (by omega) (by omega)).trans hn⟩, hf⟩
/-- the LOG's rows in the class: those of the latest 60 of m stand -/
def vRows (a m : Nat) (E : Nat → Nat) (g : zSg) : Prop := ∀ j k, j < m → m ≤ j + 60 → k < 3 → g.2.1 a (3 * (j % 100) + k) = Int32.ofNat (E (3 * j + k))
/-- how it was ahead of the latest ACTS, the latest first -/
abbrev mU : Type := List (mL × Nat)
def mCh (C : mC) : Nat → mU → Prop
  | _, [] => True
  | n, (L, m) :: U => m ≤ n ∧ n ≤ m + 1 ∧ mLf 999 C L ∧ L 53 = m ∧ mCh C m U
def mAd (x i : Nat) : Nat := 63 + 9 * ((x + 39 - i) % 40)
theorem mAd_8 {x i : Nat} : (zK0 (mAd x i)).1 = 8 := (by decide +kernel : ∀ k : Fin 40, (zK0 (63 + 9 * k.val)).1 = 8) ⟨(x + 39 - i) % 40, Nat.mod_lt _ (by omega)⟩
theorem mAd_le {x i : Nat} : 63 ≤ mAd x i ∧ mAd x i ≤ 414 := by unfold mAd; omega
/-- ACTS that can be UNDONE -/
def vUn (C : mC) (x : Nat) (E : Nat → Nat) : mU → Nat → zSg → Prop
  | [], _, _ => True
  | (L, m) :: U, i, g => vSt (mAd x i) C L m g ∧ vRows 51 m E g ∧ vUn C x E U (i + 1) g
theorem x_pick49 {x : Nat} {g : zSg} (hx : x < 40) : f_X8_pick 49 (Int32.ofNat x) g = some (some (63 + 9 * x), g) := by
  unfold f_X8_pick
  rw [show (zK0 49).2 = 40 from rfl]
  simp (disch := omega) only [qi_lit, qi_add, qi_mul, qi_sub, qi_lt, qi_le, qi_inj, qi_ne1, qi_ne1', qi_ix, if_neg (show ¬ x < 0 by omega), if_neg (show ¬ 40 ≤ x by omega), qi_zib, if_true]
  have : zR0 g.2.2.2 49 x = some (63 + 9 * x) := by
    unfold zR0
    rw [show (zK0 49).1 = 16 from rfl]
    show (if (49 : Nat) = 49 then (if x < 40 then some (63 + 9 * x) else none) else (if x < 7 then some (443 + 9 * x) else none)) = _
    rw [if_pos rfl, if_pos hx]
  rw [this]
theorem vUn.fr {C : mC} {x : Nat} {E : Nat → Nat} {U : mU} {i : Nat} {g g' : zSg} {S : Nat → Nat → Prop} (h : vUn C x E U i g) (hf : qF S g g') (hS : ∀ b k, 63 ≤ b → b ≤ 422 → ¬ S b k) (hS2 : ∀ k, ¬ S 51 k) : vUn C x E U i g' := by
  induction U generalizing i with
  | nil => trivial
  | cons q U ih =>
    obtain ⟨L, m⟩ := q
    obtain ⟨h1, h2, h3⟩ := h
    have := @mAd_le x i
    exact ⟨h1.fr hf (fun b k q1 q2 => hS b k (by omega) (by omega)), fun j k q1 q2 q3 => (hf.2.1 _ _ (hS2 _)).trans (h2 j k q1 q2 q3), ih h3⟩
theorem vUn_push {C : mC} {x : Nat} {E : Nat → Nat} {g g' : zSg} (hx : x < 40) (hf : ∀ b k, 51 ≤ b → b ≤ 422 → ¬ (63 + 9 * x ≤ b ∧ b ≤ 63 + 9 * x + 8) → g'.2.1 b k = g.2.1 b k) : ∀ (U : mU) (i k : Nat), i + k ≤ 39 → vUn C x E U i g → vUn C ((x + 1) % 40) E (U.take k) (i + 1) g'
  | [], i, k, _, _ => by rw [List.take_nil]; trivial
  | (L, m) :: U, i, 0, _, _ => trivial
  | (L, m) :: U, i, k + 1, hk, h => by
    obtain ⟨h1, h2, h3⟩ := h
    have ze : mAd ((x + 1) % 40) (i + 1) = mAd x i := by unfold mAd; omega
    have zl := @mAd_le x i
    have zn : mAd x i + 8 < 63 + 9 * x ∨ 63 + 9 * x + 8 < mAd x i := by unfold mAd; omega
    show vSt (mAd ((x + 1) % 40) (i + 1)) C L m g' ∧ vRows 51 m E g' ∧ vUn C ((x + 1) % 40) E (U.take k) (i + 1 + 1) g'
    rw [ze]
    have hq : qF (fun b _ => ¬ (mAd x i ≤ b ∧ b ≤ mAd x i + 8)) g ((g.1, fun b k => if mAd x i ≤ b ∧ b ≤ mAd x i + 8 then g'.2.1 b k else g.2.1 b k, g.2.2) : zSg) := ⟨rfl, fun b k q => by
      have q' : mAd x i ≤ b ∧ b ≤ mAd x i + 8 := Classical.not_not.mp q
      show (if _ then _ else _) = _
      rw [if_pos q']
      exact hf b k (by omega) (by omega) (by omega), fun _ _ _ => rfl, rfl⟩
    have key : ∀ b k, mAd x i ≤ b → b ≤ mAd x i + 8 → g'.2.1 b k = g.2.1 b k := fun b k q1 q2 => hf b k (by omega) (by omega) (by omega)
    refine ⟨?_, fun j k q1 q2 q3 => (hf 51 _ (by omega) (by omega) (by omega)).trans (h2 j k q1 q2 q3), vUn_push hx hf U (i + 1) k (by omega) h3⟩
    obtain ⟨⟨s1, s2, s3, s4, s5, s6, s7, s8⟩, hbr, hn⟩ := h1
    exact ⟨⟨fun p hp => (key _ _ (by omega) (by omega)).trans (s1 p hp), fun c hc => (key _ _ (by omega) (by omega)).trans (s2 c hc), (key _ _ (by omega) (by omega)).trans s3, (key _ _ (by omega) (by omega)).trans s4, (key _ _ (by omega) (by omega)).trans s5, (key _ _ (by omega) (by omega)).trans s6, (key _ _ (by omega) (by omega)).trans s7, (key _ _ (by omega) (by omega)).trans s8⟩, fun c hc hm => ⟨(key _ _ (by omega) (by omega)).trans (hbr c hc hm).1, fun p hp => (key _ _ (by omega) (by omega)).trans ((hbr c hc hm).2 p hp)⟩, (key _ _ (by omega) (by omega)).trans hn⟩
def sU (a k : Nat) : Prop := (63 ≤ a ∧ a ≤ 422) ∨ (a = 48 ∧ 5 ≤ k)
theorem x_remember {C : mC} {L : mL} {n x : Nat} {E : Nat → Nat} {U : mU} {g : zSg} (h : vSt 39 C L n g) (hr : vRows 51 n E g) (hx : x < 40) (hx5 : g.2.1 48 5 = Int32.ofNat x) (h6 : g.2.1 48 6 = Int32.ofNat U.length) (hU : U.length ≤ 40) (hu : vUn C x E U 0 g) :
    ∃ g', f_X6_remember 39 g = some ((), g') ∧ vUn C ((x + 1) % 40) E (((L, n) :: U).take 40) 0 g' ∧ g'.2.1 48 5 = Int32.ofNat ((x + 1) % 40) ∧ g'.2.1 48 6 = Int32.ofNat (((L, n) :: U).take 40).length ∧ qF sU g g' := by
  have a8 : (zK0 (63 + 9 * x)).1 = 8 := (by decide +kernel : ∀ k : Fin 40, (zK0 (63 + 9 * k.val)).1 = 8) ⟨x, hx⟩
  obtain ⟨g1, ze1, hs1, f1⟩ := x_bec (a := 63 + 9 * x) a8 (show (zK0 39).1 = 8 from rfl) (by omega) h
  have q5 : g1.2.1 48 5 = Int32.ofNat x := by rw [f1.2.1 _ _ (by omega)]; exact hx5
  have q6 : g1.2.1 48 6 = Int32.ofNat U.length := by rw [f1.2.1 _ _ (by omega)]; exact h6
  have F : qF sU g (gsI (gsI g1 48 5 (Int32.ofNat ((x + 1) % 40))) 48 6 (Int32.ofNat (min 40 (U.length + 1)))) := (((f1.mono fun b k q => by unfold sU; omega).sI (Or.inr ⟨rfl, by omega⟩)).sI (Or.inr ⟨rfl, by omega⟩))
  have hl : (((L, n) :: U).take 40).length = min 40 (U.length + 1) := by rw [List.length_take, List.length_cons]
  refine ⟨gsI (gsI g1 48 5 (Int32.ofNat ((x + 1) % 40))) 48 6 (Int32.ofNat (min 40 (U.length + 1))), ?_, ?_, ?_, ?_, F⟩
  · unfold f_X6_remember
    rw [show gI g 48 5 = Int32.ofNat x from hx5, x_pick49 hx]
    show (if (zK0 (63 + 9 * x)).1 = 8 then zB (f_X8_become (63 + 9 * x) 39 g) _ else none) = _
    rw [if_pos a8, ze1]
    simp (disch := omega) only [zB, q5, q6, qs_In, qi_lit, qi_add, qi_imod, qi_imin]
  · show vSt (mAd ((x + 1) % 40) 0) C L n _ ∧ vRows 51 n E _ ∧ vUn C ((x + 1) % 40) E (U.take 39) (0 + 1) _
    have ze : mAd ((x + 1) % 40) 0 = 63 + 9 * x := by unfold mAd; omega
    rw [ze]
    have f2 : qF (fun a k => a = 48) g1 (gsI (gsI g1 48 5 (Int32.ofNat ((x + 1) % 40))) 48 6 (Int32.ofNat (min 40 (U.length + 1)))) := ((qF.rfl' (S := fun a k => a = 48) (g := g1)).sI (show (48 : Nat) = 48 from rfl)).sI (show (48 : Nat) = 48 from rfl)
    refine ⟨hs1.fr f2 (fun b k q1 q2 => by omega), fun j k q1 q2 q3 => ?_, ?_⟩
    · rw [f2.2.1 _ _ (by omega), f1.2.1 _ _ (by omega)]
      exact hr j k q1 q2 q3
    · exact vUn_push hx (fun b k q1 q2 q3 => by rw [f2.2.1 _ _ (by omega), f1.2.1 _ _ (by omega)]) U 0 39 (by omega) hu
  · rw [qs_In (by omega), qs_Ie]
  · rw [qs_Ie, hl]
theorem vUn_pop {C : mC} {x : Nat} {E : Nat → Nat} {g : zSg} (hx : x < 40) : ∀ (U : mU) (i : Nat), i + U.length ≤ 39 → vUn C x E U (i + 1) g → vUn C ((x + 39) % 40) E U i g
  | [], _, _, _ => trivial
  | (L, m) :: U, i, hl, h => by
    obtain ⟨h1, h2, h3⟩ := h
    rw [List.length_cons] at hl
    have ze : mAd ((x + 39) % 40) i = mAd x (i + 1) := by unfold mAd; omega
    show vSt (mAd ((x + 39) % 40) i) C L m g ∧ vRows 51 m E g ∧ vUn C ((x + 39) % 40) E U (i + 1) g
    rw [ze]
    exact ⟨h1, h2, vUn_pop hx U (i + 1) (by omega) h3⟩
theorem x_recall0 {x : Nat} {g : zSg} (hx : x < 40) (hx5 : g.2.1 48 5 = Int32.ofNat x) (h6 : g.2.1 48 6 = Int32.ofNat 0) : f_X6_recall 39 g = some (0, g) := by
  have e : imod ((gI g 48 5 + 40) - 1) 40 = Int32.ofNat ((x + 39) % 40) := by
    show imod ((g.2.1 48 5 + Int32.ofNat 40) - Int32.ofNat 1) (Int32.ofNat 40) = _
    rw [hx5, qi_add, qi_sub (by omega), qi_imod (by omega) (by omega)]
    congr 1
  unfold f_X6_recall
  rw [e, x_pick49 (Nat.mod_lt _ (by omega))]
  show (if g.2.1 48 6 < 1 then _ else _) = _
  rw [h6, if_pos (by decide)]
theorem x_recall {C : mC} {L : mL} {m x : Nat} {E : Nat → Nat} {U : mU} {g : zSg} (hx : x < 40) (hx5 : g.2.1 48 5 = Int32.ofNat x) (h6 : g.2.1 48 6 = Int32.ofNat (U.length + 1)) (hU : U.length + 1 ≤ 40) (hu : vUn C x E ((L, m) :: U) 0 g) :
    ∃ g', f_X6_recall 39 g = some (1, g') ∧ vSt 39 C L m g' ∧ vRows 51 m E g' ∧ vUn C ((x + 39) % 40) E U 0 g' ∧ g'.2.1 48 5 = Int32.ofNat ((x + 39) % 40) ∧ g'.2.1 48 6 = Int32.ofNat U.length ∧ qF (fun a k => (39 ≤ a ∧ a ≤ 47) ∨ (a = 48 ∧ 5 ≤ k)) g g' := by
  obtain ⟨h1, h2, h3⟩ := hu
  have e : imod ((gI g 48 5 + 40) - 1) 40 = Int32.ofNat ((x + 39) % 40) := by
    show imod ((g.2.1 48 5 + Int32.ofNat 40) - Int32.ofNat 1) (Int32.ofNat 40) = _
    rw [hx5, qi_add, qi_sub (by omega), qi_imod (by omega) (by omega)]
    congr 1
  have ea : mAd x 0 = 63 + 9 * ((x + 39) % 40) := rfl
  have hl := @mAd_le x 0
  obtain ⟨g1, ze1, hs1, f1⟩ := x_bec (a := 39) (b := mAd x 0) rfl mAd_8 (by omega) h1
  have q6 : g1.2.1 48 6 = Int32.ofNat (U.length + 1) := by rw [f1.2.1 _ _ (by omega)]; exact h6
  have f2 : qF (fun a k => a = 48) g1 (gsI (gsI g1 48 5 (Int32.ofNat ((x + 39) % 40))) 48 6 (Int32.ofNat U.length)) := ((qF.rfl' (S := fun a k => a = 48) (g := g1)).sI (show (48 : Nat) = 48 from rfl)).sI (show (48 : Nat) = 48 from rfl)
  refine ⟨gsI (gsI g1 48 5 (Int32.ofNat ((x + 39) % 40))) 48 6 (Int32.ofNat U.length), ?_, hs1.fr f2 (fun b k q1 q2 => by omega), fun j k q1 q2 q3 => ?_, ?_, ?_, ?_, ?_⟩
  · unfold f_X6_recall
    rw [e, x_pick49 (Nat.mod_lt _ (by omega))]
    show (if g.2.1 48 6 < 1 then _ else (if (zK0 (mAd x 0)).1 = 8 then zB (f_X8_become 39 (mAd x 0) g) _ else none)) = _
    rw [h6, if_pos mAd_8, ze1]
    have hlt : ¬ (Int32.ofNat (U.length + 1) < 1) := by
      show ¬ (Int32.ofNat (U.length + 1) < Int32.ofNat 1)
      rw [qi_lt (by omega) (by omega)]
      omega
    rw [if_neg hlt]
    simp (disch := omega) only [zB, q6, qs_In, qi_lit]
    rw [qi_sub (by omega)]
    rfl
  · rw [f2.2.1 _ _ (by omega), f1.2.1 _ _ (by omega)]
    exact h2 j k q1 q2 q3
  · refine vUn.fr (S := fun a k => a = 48) (vUn_pop hx U 0 (by omega) (h3.fr f1 (fun b k q1 q2 => by omega) (fun k => by omega))) f2 (fun b k q1 q2 => by omega) (fun k => by omega)
  · rw [qs_In (by omega), qs_Ie]
  · rw [qs_Ie]
  · exact ((f1.mono fun b k q => by omega).sI (Or.inr ⟨rfl, by omega⟩)).sI (Or.inr ⟨rfl, by omega⟩)
/-- how many bits -/
def qPop (x : Int32) : Int32 := ((f_J6_bitCount_0f7a4 x g0).map Prod.fst).getD 0
theorem q_pop {x : Int32} {g : zSg} : f_J6_bitCount_0f7a4 x g = some (qPop x, g) := rfl
def mPop (x : Nat) : Nat := mCnt (fun i => x.testBit i) 10
theorem qPop_eq {x : Nat} (h : x < 1024) : qPop (Int32.ofNat x) = Int32.ofNat (mPop x) := of_decide_eq_true (List.all_eq_true.mp (by decide +kernel : (List.range 1024).all (fun x => decide (qPop (Int32.ofNat x) = Int32.ofNat (mPop x))) = true) x (List.mem_range.mpr h))
theorem mPop_le {x : Nat} : mPop x ≤ 10 := mCnt_le
/-- a row more of the LOG -/
def mLg (E : Nat → Nat) (n w c o : Nat) : Nat → Nat := fun i => if i = 3 * n then w else if i = 3 * n + 1 then c else if i = 3 * n + 2 then o else E i
theorem vUn_log {C : mC} {x n w c o : Nat} {E : Nat → Nat} {g g' : zSg} (hf : ∀ b k, 63 ≤ b → b ≤ 422 → g'.2.1 b k = g.2.1 b k) (hf2 : ∀ k, ¬ (3 * (n % 100) ≤ k ∧ k < 3 * (n % 100) + 3) → g'.2.1 51 k = g.2.1 51 k) : ∀ (U : mU) (i b : Nat), mCh C b U → b ≤ n → n + 1 ≤ b + i → i + U.length ≤ 40 → vUn C x E U i g → vUn C x (mLg E n w c o) U i g'
  | [], _, _, _, _, _, _, _ => trivial
  | (L, m) :: U, i, b, hc, hb, hn, hl, h => by
    obtain ⟨h1, h2, h3⟩ := h
    obtain ⟨c1, c2, -, -, c5⟩ := hc
    rw [List.length_cons] at hl
    have zl := @mAd_le x i
    have hq : qF (fun b _ => ¬ (63 ≤ b ∧ b ≤ 422)) g ((g.1, fun b k => if 63 ≤ b ∧ b ≤ 422 then g'.2.1 b k else g.2.1 b k, g.2.2) : zSg) := ⟨rfl, fun b k q => by
      have q' : 63 ≤ b ∧ b ≤ 422 := Classical.not_not.mp q
      show (if _ then _ else _) = _
      rw [if_pos q']
      exact hf b k q'.1 q'.2, fun _ _ _ => rfl, rfl⟩
    have key : ∀ b k, mAd x i ≤ b → b ≤ mAd x i + 8 → g'.2.1 b k = g.2.1 b k := fun b k q1 q2 => hf b k (by omega) (by omega)
    refine ⟨?_, fun j k q1 q2 q3 => ?_, vUn_log hf hf2 U (i + 1) m c5 (by omega) (by omega) (by omega) h3⟩
    · obtain ⟨⟨s1, s2, s3, s4, s5, s6, s7, s8⟩, hbr, hn⟩ := h1
      exact ⟨⟨fun p hp => (key _ _ (by omega) (by omega)).trans (s1 p hp), fun c hc => (key _ _ (by omega) (by omega)).trans (s2 c hc), (key _ _ (by omega) (by omega)).trans s3, (key _ _ (by omega) (by omega)).trans s4, (key _ _ (by omega) (by omega)).trans s5, (key _ _ (by omega) (by omega)).trans s6, (key _ _ (by omega) (by omega)).trans s7, (key _ _ (by omega) (by omega)).trans s8⟩, fun c hc hm => ⟨(key _ _ (by omega) (by omega)).trans (hbr c hc hm).1, fun p hp => (key _ _ (by omega) (by omega)).trans ((hbr c hc hm).2 p hp)⟩, (key _ _ (by omega) (by omega)).trans hn⟩
    · rw [hf2 _ (by omega), h2 j k q1 q2 q3]
      unfold mLg
      rw [if_neg (by omega), if_neg (by omega), if_neg (by omega)]
theorem x_write {C : mC} {L : mL} {n x w : Nat} {E : Nat → Nat} {U : mU} {g : zSg} (h : vSt 39 C L n g) (hb : L 49 < 64) (ho : L 51 ≤ 999) (hn : n ≤ 9999) (hr : vRows 51 n E g) (hu : vUn C x E U 0 g) (hch : mCh C n U) (hhd : ∀ L0 m0 U0, U = (L0, m0) :: U0 → m0 = n) (hU : U.length ≤ 40) :
    ∃ g', f_X6_write 39 (Int32.ofNat w) g = some ((), g') ∧ vSt 39 C L (n + 1) g' ∧ vRows 51 (n + 1) (mLg E n w (mPop (L 49)) (L 51)) g' ∧ vUn C x (mLg E n w (mPop (L 49)) (L 51)) U 0 g' ∧ qF (fun a k => a = 51 ∨ (a = 39 ∧ k = 10)) g g' := by
  have h10 : g.2.1 39 10 = Int32.ofNat n := h.2.2
  have hs := h.1
  obtain ⟨G, hG⟩ : ∃ G, G = gsI (gsI (gsI (gsI g 51 (n % 100 * 3) (Int32.ofNat w)) 51 (n % 100 * 3 + 1) (Int32.ofNat (mPop (L 49)))) 51 (n % 100 * 3 + 2) (Int32.ofNat (L 51))) 39 10 (Int32.ofNat (n + 1)) := ⟨_, rfl⟩
  have F : qF (fun a k => a = 51 ∨ (a = 39 ∧ k = 10)) g G := by
    rw [hG]
    exact (((qF.rfl'.sI (Or.inl rfl)).sI (Or.inl rfl)).sI (Or.inl rfl)).sI (Or.inr ⟨rfl, rfl⟩)
  have r51 : ∀ k, ¬ (3 * (n % 100) ≤ k ∧ k < 3 * (n % 100) + 3) → G.2.1 51 k = g.2.1 51 k := fun k hk => by
    rw [hG, qs_In (by omega), qs_In (by omega), qs_In (by omega), qs_In (by omega)]
  have hrow : ∀ j k, j < n → n ≤ j + 60 → k < 3 → G.2.1 51 (3 * (j % 100) + k) = Int32.ofNat (mLg E n w (mPop (L 49)) (L 51) (3 * j + k)) := fun j k q1 q2 q3 => by
    rw [r51 _ (by omega), hr j k q1 q2 q3]
    unfold mLg
    rw [if_neg (by omega), if_neg (by omega), if_neg (by omega)]
  refine ⟨G, ?_, ⟨?_, ?_, ?_⟩, ?_, ?_, F⟩
  · have v5 : g.2.1 39 5 = Int32.ofNat (L 49) := hs.2.2.2.1
    have v7 : g.2.1 39 7 = Int32.ofNat (L 51) := hs.2.2.2.2.2.1
    unfold f_X6_write
    simp (disch := omega) only [h10, qi_lit, qi_imod, qi_mul, qi_add, q_set50, zB, q_pop, qs_In, v5, v7, qPop_eq]
    rw [hG]
  · obtain ⟨s1, s2, s3, s4, s5, s6, s7, s8⟩ := hs
    exact ⟨fun p hp => (F.2.1 _ _ (by omega)).trans (s1 p hp), fun c hc => (F.2.1 _ _ (by omega)).trans (s2 c hc), (F.2.1 _ _ (by omega)).trans s3, (F.2.1 _ _ (by omega)).trans s4, (F.2.1 _ _ (by omega)).trans s5, (F.2.1 _ _ (by omega)).trans s6, (F.2.1 _ _ (by omega)).trans s7, (F.2.1 _ _ (by omega)).trans s8⟩
  · intro c hc hm
    obtain ⟨q1, q2⟩ := h.2.1 c hc hm
    exact ⟨(F.2.1 _ _ (by omega)).trans q1, fun p hp => (F.2.1 _ _ (by omega)).trans (q2 p hp)⟩
  · rw [hG, qs_Ie]
  · intro j k q1 q2 q3
    by_cases z : j = n
    · subst z
      unfold mLg
      rcases (show k = 0 ∨ k = 1 ∨ k = 2 by omega) with rfl | rfl | rfl
      · rw [if_pos (by omega), hG, qs_In (by omega), qs_In (by omega), qs_In (by omega), show 3 * (j % 100) + 0 = j % 100 * 3 by omega, qs_Ie]
      · rw [if_neg (by omega), if_pos (by omega), hG, qs_In (by omega), qs_In (by omega), show 3 * (j % 100) + 1 = j % 100 * 3 + 1 by omega, qs_Ie]
      · rw [if_neg (by omega), if_neg (by omega), if_pos (by omega), hG, qs_In (by omega), show 3 * (j % 100) + 2 = j % 100 * 3 + 2 by omega, qs_Ie]
    · exact hrow j k (by omega) (by omega) q3
  · cases U with
    | nil => trivial
    | cons q U =>
      obtain ⟨L0, m0⟩ := q
      obtain ⟨u1, u2, u3⟩ := hu
      obtain ⟨c1, c2, c3, c4, c5⟩ := hch
      have hm0 : m0 = n := hhd L0 m0 U rfl
      subst hm0
      rw [List.length_cons] at hU
      have zl := @mAd_le x 0
      refine ⟨u1.fr F (fun b k q1 q2 => by omega), fun j k q1 q2 q3 => hrow j k q1 q2 q3, vUn_log (fun b k q1 q2 => F.2.1 _ _ (by omega)) r51 U 1 m0 c5 (Nat.le_refl _) (Nat.le_refl _) (by omega) u3⟩
abbrev mIm : Type := Option (mL × Nat × (Nat → Nat))
/-- the IMAGE -/
def vIm (C : mC) (Im : mIm) (g : zSg) : Prop := match Im with
  | none => g.2.1 48 4 = Int32.ofNat 0
  | some (L, n, E) => g.2.1 48 4 = Int32.ofNat 1 ∧ vSt 54 C L n g ∧ vRows 53 n E g
theorem vIm.fr {C : mC} {Im : mIm} {g g' : zSg} {S : Nat → Nat → Prop} (h : vIm C Im g) (hf : qF S g g') (h4 : ¬ S 48 4) (hS : ∀ b k, 53 ≤ b → b ≤ 62 → ¬ S b k) : vIm C Im g' := by
  match Im, h with
  | none, h => exact (hf.2.1 _ _ h4).trans h
  | some (L, n, E), ⟨h1, h2, h3⟩ => exact ⟨(hf.2.1 _ _ h4).trans h1, h2.fr hf (fun b k q1 q2 => hS b k (by omega) (by omega)), fun j k q1 q2 q3 => (hf.2.1 _ _ (hS _ _ (by omega) (by omega))).trans (h3 j k q1 q2 q3)⟩
theorem x_picture {C : mC} {L : mL} {n : Nat} {E : Nat → Nat} {g : zSg} (h : vSt 39 C L n g) (hr : vRows 51 n E g) : ∃ g', f_X6_picture 39 g = some ((), g') ∧ vIm C (some (L, n, E)) g' ∧ qF (fun a k => (53 ≤ a ∧ a ≤ 62) ∨ (a = 48 ∧ k = 4)) g g' := by
  obtain ⟨g1, ze1, hs1, f1⟩ := x_bec (a := 54) rfl (show (zK0 39).1 = 8 from rfl) (by omega) h
  obtain ⟨g2, ze2, c2, f2⟩ := q_bec (a := 52) (b := 50) (n := 300) (g := g1) rfl rfl (by omega)
  have f3 : qF (fun a k => a = 48 ∧ k = 4) g2 (gsI g2 48 4 1) := qF.rfl'.sI ⟨rfl, rfl⟩
  refine ⟨gsI g2 48 4 1, ?_, ⟨qs_Ie, (hs1.fr f2 (fun b k q1 q2 => by omega)).fr f3 (fun b k q1 q2 => by omega), fun j k q1 q2 q3 => ?_⟩, ((f1.mono fun b k q => by omega).tr (f2.mono fun b k q => by omega)).tr (f3.mono fun b k q => by omega)⟩
  · unfold f_X6_picture
    simp only [ze1, zB, ze2]
  · rw [f3.2.1 _ _ (by omega), c2 _ (by omega), f1.2.1 _ _ (by omega)]
    exact hr j k q1 q2 q3
theorem x_restore0 {g : zSg} (h : g.2.1 48 4 = Int32.ofNat 0) : f_X6_restore 39 g = some (0, g) := by
  unfold f_X6_restore
  rw [if_neg (fun w => w h)]
theorem x_restore {C : mC} {L : mL} {n : Nat} {E : Nat → Nat} {g : zSg} (h : vIm C (some (L, n, E)) g) : ∃ g', f_X6_restore 39 g = some (1, g') ∧ vSt 39 C L n g' ∧ vRows 51 n E g' ∧ g'.2.1 48 6 = Int32.ofNat 0 ∧ qF (fun a k => (39 ≤ a ∧ a ≤ 47) ∨ a = 51 ∨ (a = 48 ∧ k = 6)) g g' := by
  obtain ⟨h1, h2, h3⟩ := h
  obtain ⟨g1, ze1, hs1, f1⟩ := x_bec (a := 39) (b := 54) rfl rfl (by omega) h2
  obtain ⟨g2, ze2, c2, f2⟩ := q_bec (a := 50) (b := 52) (n := 300) (g := g1) rfl rfl (by omega)
  have f3 : qF (fun a k => a = 48 ∧ k = 6) g2 (gsI g2 48 6 0) := qF.rfl'.sI ⟨rfl, rfl⟩
  refine ⟨gsI g2 48 6 0, ?_, (hs1.fr f2 (fun b k q1 q2 => by omega)).fr f3 (fun b k q1 q2 => by omega), fun j k q1 q2 q3 => ?_, qs_Ie, ((f1.mono fun b k q => by omega).tr (f2.mono fun b k q => by omega)).tr (f3.mono fun b k q => by omega)⟩
  · unfold f_X6_restore
    have hne : ¬ g.2.1 48 4 = 0 := by rw [h1]; decide
    rw [if_pos hne]
    simp only [ze1, zB, ze2]
  · rw [f3.2.1 _ _ (by omega), c2 _ (by omega), f1.2.1 _ _ (by omega)]
    exact h3 j k q1 q2 q3
/-- all that is, as the class keeps it -/
def vBX (C : mC) (L : mL) (n : Nat) (E : Nat → Nat) (U : mU) (Im : mIm) (g : zSg) : Prop := vSt 39 C L n g ∧ vRows 51 n E g ∧ (∃ x, x < 40 ∧ g.2.1 48 5 = Int32.ofNat x ∧ vUn C x E U 0 g) ∧ g.2.1 48 6 = Int32.ofNat U.length ∧ U.length ≤ 40 ∧ vIm C Im g
