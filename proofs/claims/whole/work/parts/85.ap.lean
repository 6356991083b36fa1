/-! ===== both sides: a LAW worked out: stretches of codes ===== -/
abbrev mV : Type := (Nat → Nat) → Int
def mVr (r : Nat → Nat) : Prop := ∀ j, j < 6 → r j < 1000
def mVb (v : mV) : Prop := ∀ r, mVr r → -1000000 ≤ v r ∧ v r ≤ 1000000
def mVt (v : mV) : Prop := ∀ r, mVr r → v r = 0 ∨ v r = 1
def xObj (a : Nat) : Prop := a = 17 ∨ a = 22 ∨ a = 27 ∨ a = 32
theorem xObj.k {a : Nat} (h : xObj a) : (zK0 (a + 1 + 1)).2 = 256 ∧ (zK0 (a + 3 + 1)).2 = 64 ∧ 17 ≤ a ∧ a ≤ 32 := by
  rcases h with rfl | rfl | rfl | rfl <;> exact ⟨rfl, rfl, by omega, by omega⟩
/-- the class: from code s with top on the stack to code e with one more -/
def xSeg (K : Nat → Int32) (s e w : Nat) (v : mV) : Prop := s ≤ e ∧ ∀ (a : Nat) (r : Nat → Nat) (g : zSg) (m top len : Nat), xObj a → mVr r → (∀ j, j < 6 → g.2.1 425 j = Int32.ofNat (r j)) → (∀ k, s ≤ k → k < e → g.2.1 (a + 2) k = K k) → g.2.1 a 2 = Int32.ofNat len → e ≤ len → len ≤ 256 → top + w ≤ 60 → ∃ g', f_X4_worth_4 a 424 (m + (e - s)) (Int32.ofNat top) (Int32.ofNat s) g = f_X4_worth_4 a 424 m (Int32.ofNat (top + 1)) (Int32.ofNat e) g' ∧ g'.2.1 (a + 4) top = Int32.ofInt (v r) ∧ qF (fun b k => b = a + 4 ∧ top ≤ k) g g'
theorem xSeg.cp {K K' : Nat → Int32} {s e w : Nat} {v : mV} (h : xSeg K s e w v) (hk : ∀ k, s ≤ k → k < e → K' k = K k) : xSeg K' s e w v :=
  ⟨h.1, fun a r g m top len ha hr hl hc h2 he hn ht => h.2 a r g m top len ha hr hl (fun k q1 q2 => (hc k q1 q2).trans (hk k q1 q2)) h2 he hn ht⟩
theorem xSeg.up {K : Nat → Int32} {s e w w' : Nat} {v : mV} (h : xSeg K s e w v) (hw : w ≤ w') : xSeg K s e w' v :=
  ⟨h.1, fun a r g m top len ha hr hl hc h2 he hn ht => h.2 a r g m top len ha hr hl hc h2 he hn (by omega)⟩
section AP
variable {K : Nat → Int32}
theorem q_push {a top : Nat} {x : Int32} {g : zSg} (ha : xObj a) (ht : top < 64) : f_X7_set (a + 3) (Int32.ofNat top) x g = some ((), gsI g (a + 4) top x) := q_set (a := a + 3) (n := 64) ha.k.2.1 (by decide) ht
theorem q_peek {a top : Nat} {g : zSg} (ha : xObj a) (ht : top < 64) : f_X7_get (a + 3) (Int32.ofNat top) g = some (g.2.1 (a + 4) top, g) := q_get (a := a + 3) (n := 64) ha.k.2.1 (by decide) ht
theorem q_code {a k : Nat} {g : zSg} (ha : xObj a) (hk : k < 256) : f_X7_get (a + 1) (Int32.ofNat k) g = some (g.2.1 (a + 2) k, g) := q_get (a := a + 1) (n := 256) ha.k.1 (by decide) hk
theorem x_ws {a m : Nat} {y2 y3 : Int32} {g : zSg} : f_X4_worth_4 a 424 (m + 1) y2 y3 g = fb_X4_worth_4 a 424 (f_X4_worth_4 a 424 m) y2 y3 g := rfl
theorem x_211 {a b : Nat} {k : Int32 → Int32 → zSg → Option (Int32 × zSg)} {y2 y3 : Int32} {g : zSg} : f_X4_worth_211 a b k y2 y3 g = k y2 (y3 + 1) g := rfl
theorem x_126 {a b : Nat} {k : Int32 → Int32 → zSg → Option (Int32 × zSg)} {y2 y3 s0 s1 : Int32} {g : zSg} : f_X4_worth_126 a b k y2 y3 s0 s1 g = zB (f_X7_set (a + 3) s1 s0 g) (fun v1 g2 => f_X4_worth_211 a b k y2 y3 g2) := rfl
theorem x_83 {a b : Nat} {y2 : Int32} {g : zSg} : f_X4_worth_83 a b y2 g = zB (f_X7_get (a + 3) (y2 - 1) g) (fun v1 g2 => some (v1, g2)) := rfl
theorem xSeg_num {s n : Nat} (hK : K s = Int32.ofNat n) (hn : n < 10000) : xSeg K s (s + 1) 1 (fun _ => (n : Int)) := by
  refine ⟨by omega, fun a r g m top len ha hr hl hc h2 he hlen ht => ?_⟩
  rw [show m + (s + 1 - s) = m + 1 by omega]
  refine ⟨gsI g (a + 4) top (Int32.ofNat n), ?_, by rw [qs_Ie, qj_of], qF.rfl'.sI ⟨rfl, Nat.le_refl _⟩⟩
  rw [x_ws]
  unfold fb_X4_worth_4
  rw [show gI g a 2 = Int32.ofNat len from h2, if_neg (show ¬ Int32.ofNat len ≤ Int32.ofNat s by rw [qi_le (by omega) (by omega)]; omega), q_code ha (by omega), qB_s, hc s (by omega) (by omega), hK, if_neg (show ¬ Int32.ofNat n < (0 : Int32) by rw [show (0 : Int32) = Int32.ofNat 0 from rfl, qi_lt (by omega) (by omega)]; omega), q_push ha (by omega), qB_s, x_211, show Int32.ofNat top + 1 = Int32.ofNat (top + 1) from qi_add top 1, show Int32.ofNat s + 1 = Int32.ofNat (s + 1) from qi_add s 1]
theorem xSeg_let {s j : Nat} (hK : K s = Int32.ofInt (-1 - (j : Int))) (hj : j < 6) : xSeg K s (s + 1) 1 (fun r => (r j : Int)) := by
  refine ⟨by omega, fun a r g m top len ha hr hl hc h2 he hlen ht => ?_⟩
  rw [show m + (s + 1 - s) = m + 1 by omega]
  refine ⟨gsI g (a + 4) top (Int32.ofNat (r j)), ?_, by rw [qs_Ie, qj_of], qF.rfl'.sI ⟨rfl, Nat.le_refl _⟩⟩
  rw [x_ws]
  unfold fb_X4_worth_4
  rw [show gI g a 2 = Int32.ofNat len from h2, if_neg (show ¬ Int32.ofNat len ≤ Int32.ofNat s by rw [qi_le (by omega) (by omega)]; omega), q_code ha (by omega), qB_s, hc s (by omega) (by omega), hK]
  rw [if_pos (show Int32.ofInt (-1 - (j : Int)) < (0 : Int32) by show _ < Int32.ofInt 0; rw [qj_lt (by omega) (by omega) (by omega) (by omega)]; omega), if_neg (show ¬ Int32.ofInt (-1 - (j : Int)) < (-6 : Int32) by show ¬ _ < Int32.ofInt (-6); rw [qj_lt (by omega) (by omega) (by omega) (by omega)]; omega)]
  rw [show (-1 : Int32) - Int32.ofInt (-1 - (j : Int)) = Int32.ofNat j by
    show Int32.ofInt (-1) - Int32.ofInt (-1 - (j : Int)) = _
    rw [qj_sub, qj_of]
    congr 1
    omega]
  rw [q_get (a := 424) (n := 6) rfl (by decide) hj, qB_s, hl j hj, q_push ha (by omega), qB_s, x_211, show Int32.ofNat top + 1 = Int32.ofNat (top + 1) from qi_add top 1, show Int32.ofNat s + 1 = Int32.ofNat (s + 1) from qi_add s 1]
theorem xSeg_bin {s e1 e2 w1 w2 c : Nat} {v1 v2 : mV} (h1 : xSeg K s e1 w1 v1) (h2 : xSeg K e1 e2 w2 v2) (hc : mOc c) (hK : K e2 = - Int32.ofNat c) (b1 : mVb v1) (b2 : mVb v2) (ht : c = 38 ∨ c = 124 → mVt v1 ∧ mVt v2) {w : Nat} (hw1 : w1 ≤ w) (hw2 : w2 + 1 ≤ w) : xSeg K s (e2 + 1) w (fun r => mOp c (v1 r) (v2 r)) := by
  have l1 := h1.1
  have l2 := h2.1
  refine ⟨by omega, fun a r g m top len ha hr hl hcd hln he hlen htop => ?_⟩
  have hcb : 38 ≤ c ∧ c ≤ 124 ∧ c ≠ 59 ∧ c ≠ 33 ∧ c ≠ 63 := by unfold mOc at hc; omega
  have hak := ha.k
  obtain ⟨g1, z1, p1, f1⟩ := h1.2 a r g (m + (e2 + 1 - e1)) top len ha hr hl (fun k q1 q2 => hcd k q1 (by omega)) hln (by omega) hlen (by omega)
  have k1 : ∀ k, g1.2.1 (a + 2) k = g.2.1 (a + 2) k := fun k => f1.2.1 _ _ (by omega)
  obtain ⟨g2, z2, p2, f2⟩ := h2.2 a r g1 (m + 1) (top + 1) len ha hr (fun j hj => (f1.2.1 _ _ (by omega)).trans (hl j hj)) (fun k q1 q2 => (k1 k).trans (hcd k (by omega) (by omega))) ((f1.2.1 _ _ (by omega)).trans hln) (by omega) hlen (by omega)
  have e1' : g2.2.1 (a + 4) top = Int32.ofInt (v1 r) := (f2.2.1 _ _ (by omega)).trans p1
  have bb1 := b1 r hr
  have bb2 := b2 r hr
  refine ⟨gsI g2 (a + 4) top (Int32.ofInt (mOp c (v1 r) (v2 r))), ?_, qs_Ie, ((f1.mono fun b k w => w).tr (f2.mono fun b k w => ⟨w.1, by omega⟩)).sI ⟨rfl, Nat.le_refl _⟩⟩
  rw [show m + (e2 + 1 - s) = m + (e2 + 1 - e1) + (e1 - s) by omega, z1, show m + (e2 + 1 - e1) = m + 1 + (e2 - e1) by omega, z2]
  rw [x_ws]
  unfold fb_X4_worth_4
  have nl : ∀ d : Nat, d < 1000 → c ≠ d → ¬ (- Int32.ofNat c = - Int32.ofNat d) := fun d hd hcd h => by
    rw [qi_neg, qi_neg, qj_inj (by omega) (by omega) (by omega) (by omega)] at h
    omega
  rw [show gI g2 a 2 = Int32.ofNat len from (f2.2.1 _ _ (by omega)).trans ((f1.2.1 _ _ (by omega)).trans hln), if_neg (show ¬ Int32.ofNat len ≤ Int32.ofNat e2 by rw [qi_le (by omega) (by omega)]; omega), q_code ha (by omega), qB_s, (show g2.2.1 (a + 2) e2 = _ from (f2.2.1 _ _ (by omega)).trans ((k1 e2).trans (hcd e2 (by omega) (by omega)))), hK]
  rw [if_pos (show - Int32.ofNat c < (0 : Int32) by show _ < Int32.ofInt 0; rw [qi_neg, qj_lt (by omega) (by omega) (by omega) (by omega)]; omega), if_pos (show - Int32.ofNat c < (-6 : Int32) by show _ < Int32.ofInt (-6); rw [qi_neg, qj_lt (by omega) (by omega) (by omega) (by omega)]; omega), if_pos (show ¬ - Int32.ofNat c = (-59 : Int32) from nl 59 (by omega) (by omega)), if_pos (show ¬ - Int32.ofNat c = (-33 : Int32) from nl 33 (by omega) (by omega)), if_pos (show ¬ - Int32.ofNat c = (-63 : Int32) from nl 63 (by omega) (by omega))]
  rw [show Int32.ofNat (top + 1 + 1) + (-1) = Int32.ofNat (top + 1) from qi_dec (n := top + 1 + 1) (by omega), show Int32.ofNat (top + 1) - 1 = Int32.ofNat top from qi_sub (a := top + 1) (b := 1) (by omega), q_peek ha (by omega), qB_s, q_peek ha (by omega), qB_s, e1', p2]
  rw [show - - Int32.ofNat c = Int32.ofNat c from Int32.neg_neg, x_workOut hc bb1 bb2 (fun w => ⟨(ht w).1 r hr, (ht w).2 r hr⟩), qB_s, q_push ha (by omega), qB_s, x_211, show Int32.ofNat e2 + 1 = Int32.ofNat (e2 + 1) from qi_add e2 1]
theorem xSeg_not {s e w : Nat} {v : mV} (h : xSeg K s e w v) (hK : K e = - Int32.ofNat 33) (hv : mVt v) (hw : 1 ≤ w) : xSeg K s (e + 1) w (fun r => 1 - v r) := by
  have l1 := h.1
  refine ⟨by omega, fun a r g m top len ha hr hl hcd hln he hlen htop => ?_⟩
  have hak := ha.k
  obtain ⟨g1, z1, p1, f1⟩ := h.2 a r g (m + 1) top len ha hr hl (fun k q1 q2 => hcd k q1 (by omega)) hln (by omega) hlen (by omega)
  refine ⟨gsI g1 (a + 4) top (Int32.ofInt (1 - v r)), ?_, qs_Ie, f1.sI ⟨rfl, Nat.le_refl _⟩⟩
  rw [show m + (e + 1 - s) = m + 1 + (e - s) by omega, z1]
  rw [x_ws]
  unfold fb_X4_worth_4
  rw [show gI g1 a 2 = Int32.ofNat len from (f1.2.1 _ _ (by omega)).trans hln, if_neg (show ¬ Int32.ofNat len ≤ Int32.ofNat e by rw [qi_le (by omega) (by omega)]; omega), q_code ha (by omega), qB_s, (show g1.2.1 (a + 2) e = _ from (f1.2.1 _ _ (by omega)).trans (hcd e (by omega) (by omega))), hK, if_pos (by decide), if_pos (by decide), if_pos (by decide), if_neg (by decide), show Int32.ofNat (top + 1) - 1 = Int32.ofNat top from qi_sub (a := top + 1) (b := 1) (by omega), q_peek ha (by omega), qB_s, p1]
  rcases hv r hr with q | q
  · rw [q, if_neg (by decide), x_126, q_push ha (by omega), qB_s, x_211, show Int32.ofNat e + 1 = Int32.ofNat (e + 1) from qi_add e 1]; rfl
  · rw [q, if_pos (by decide), x_126, q_push ha (by omega), qB_s, x_211, show Int32.ofNat e + 1 = Int32.ofNat (e + 1) from qi_add e 1]; rfl
end AP
/-- the reference -/
def mSeg (t : Nat) (Kc Kv : Nat → Int32) (s e w : Nat) (v : mV) : Prop := s ≤ e ∧ ∀ (r : Nat → Nat) (g : zSg) (m top to : Nat), mVr r → (∀ j, j < 6 → g.2.1 535 j = Int32.ofNat (r j)) → (∀ k, s ≤ k → k < e → g.2.1 528 (520 * t + k) = Kc (520 * t + k) ∧ g.2.1 529 (520 * t + k) = Kv (520 * t + k)) → e ≤ to → to ≤ 520 → top + w ≤ 60 → ∃ g', f_X12_workOut_12 (m + (e - s)) (Int32.ofNat t) (Int32.ofNat to) (Int32.ofNat top) (Int32.ofNat (520 * t + s)) g = f_X12_workOut_12 m (Int32.ofNat t) (Int32.ofNat to) (Int32.ofNat (top + 1)) (Int32.ofNat (520 * t + e)) g' ∧ g'.2.1 536 top = Int32.ofInt (v r) ∧ qF (fun b k => b = 536 ∧ top ≤ k) g g'
theorem mSeg.cp {t : Nat} {Kc Kv Kc' Kv' : Nat → Int32} {s e w : Nat} {v : mV} (h : mSeg t Kc Kv s e w v) (hk : ∀ k, s ≤ k → k < e → Kc' (520 * t + k) = Kc (520 * t + k) ∧ Kv' (520 * t + k) = Kv (520 * t + k)) : mSeg t Kc' Kv' s e w v :=
  ⟨h.1, fun r g m top to hr hl hc he hn ht => h.2 r g m top to hr hl (fun k q1 q2 => ⟨(hc k q1 q2).1.trans (hk k q1 q2).1, (hc k q1 q2).2.trans (hk k q1 q2).2⟩) he hn ht⟩
theorem mSeg.up {t : Nat} {Kc Kv : Nat → Int32} {s e w w' : Nat} {v : mV} (h : mSeg t Kc Kv s e w v) (hw : w ≤ w') : mSeg t Kc Kv s e w' v :=
  ⟨h.1, fun r g m top to hr hl hc he hn ht => h.2 r g m top to hr hl hc he hn (by omega)⟩
section APM
variable {t : Nat} {Kc Kv : Nat → Int32}
theorem m_stop {t to k : Nat} (ht : t < 5) (hto : to ≤ 520) (hk : k < to) : ¬ ((520 : Int32) * Int32.ofNat t + Int32.ofNat to ≤ Int32.ofNat (520 * t + k)) := by
  show ¬ (Int32.ofNat 520 * Int32.ofNat t + Int32.ofNat to ≤ _)
  rw [qi_mul, qi_add, qi_le (by omega) (by omega)]
  omega
theorem mSeg_num {s n : Nat} (hc : Kc (520 * t + s) = 0) (hK : Kv (520 * t + s) = Int32.ofNat n) (ht5 : t < 5) : mSeg t Kc Kv s (s + 1) 1 (fun _ => (n : Int)) := by
  refine ⟨by omega, fun r g m top to hr hl hcd he hto htop => ?_⟩
  rw [show m + (s + 1 - s) = m + 1 by omega]
  obtain ⟨c1, c2⟩ := hcd s (by omega) (by omega)
  refine ⟨gsI g 536 top (Int32.ofNat n), ?_, by rw [qs_Ie, qj_of], qF.rfl'.sI ⟨rfl, Nat.le_refl _⟩⟩
  show fb_X12_workOut_12 _ _ _ _ _ g = _
  unfold fb_X12_workOut_12 f_X12_workOut_45 f_X12_workOut_83 f_X12_workOut_165
  rw [if_neg (m_stop ht5 hto (by omega)), if_pos (qi_zib (by omega) (by omega)), qi_ix (by omega), show gI g 528 (520 * t + s) = 0 from c1.trans hc, if_pos rfl, if_pos (qi_zib (by omega) (by omega)), if_neg (fun w => w rfl), if_pos (qi_zib (by omega) (by omega)), if_pos (qi_zib (by omega) (by omega)), qi_ix (by omega), show gI g 529 (520 * t + s) = Int32.ofNat n from c2.trans hK, show Int32.ofNat top + 1 = Int32.ofNat (top + 1) from qi_add top 1, show Int32.ofNat (520 * t + s) + 1 = Int32.ofNat (520 * t + (s + 1)) from qi_add (520 * t + s) 1]
theorem mSeg_let {s j : Nat} (hc : Kc (520 * t + s) = 1) (hK : Kv (520 * t + s) = Int32.ofNat j) (hj : j < 6) (ht5 : t < 5) : mSeg t Kc Kv s (s + 1) 1 (fun r => (r j : Int)) := by
  refine ⟨by omega, fun r g m top to hr hl hcd he hto htop => ?_⟩
  rw [show m + (s + 1 - s) = m + 1 by omega]
  obtain ⟨c1, c2⟩ := hcd s (by omega) (by omega)
  refine ⟨gsI g 536 top (Int32.ofNat (r j)), ?_, by rw [qs_Ie, qj_of], qF.rfl'.sI ⟨rfl, Nat.le_refl _⟩⟩
  show fb_X12_workOut_12 _ _ _ _ _ g = _
  unfold fb_X12_workOut_12 f_X12_workOut_45 f_X12_workOut_83 f_X12_workOut_165
  rw [if_neg (m_stop ht5 hto (by omega)), if_pos (qi_zib (by omega) (by omega)), qi_ix (by omega), show gI g 528 (520 * t + s) = 1 from c1.trans hc, if_neg (by decide), if_pos (qi_zib (by omega) (by omega)), if_neg (fun w => w rfl), if_pos (qi_zib (by omega) (by omega)), if_pos (by decide), if_pos (qi_zib (by omega) (by omega)), show gI g 529 (520 * t + s) = Int32.ofNat j from c2.trans hK, if_pos (qi_zib (by omega) (by omega)), if_pos (qi_zib (by omega) (by omega)), qi_ix (by omega), qi_ix (by omega), show gI g 535 j = Int32.ofNat (r j) from hl j hj, show Int32.ofNat top + 1 = Int32.ofNat (top + 1) from qi_add top 1, show Int32.ofNat (520 * t + s) + 1 = Int32.ofNat (520 * t + (s + 1)) from qi_add (520 * t + s) 1]
theorem mCo_b {c : Nat} : 2 ≤ mCo c ∧ mCo c ≤ 11 ∧ mCo c ≠ 9 := by
  unfold mCo
  repeat' split
  all_goals omega
theorem mSeg_bin {s e1 e2 w1 w2 c : Nat} {v1 v2 : mV} (h1 : mSeg t Kc Kv s e1 w1 v1) (h2 : mSeg t Kc Kv e1 e2 w2 v2) (hc : mOc c) (hK : Kc (520 * t + e2) = Int32.ofNat (mCo c)) (b1 : mVb v1) (b2 : mVb v2) {w : Nat} (hw1 : w1 ≤ w) (hw2 : w2 + 1 ≤ w) (ht5 : t < 5) : mSeg t Kc Kv s (e2 + 1) w (fun r => mOp c (v1 r) (v2 r)) := by
  have l1 := h1.1
  have l2 := h2.1
  have hco := @mCo_b c
  refine ⟨by omega, fun r g m top to hr hl hcd he hto htop => ?_⟩
  obtain ⟨g1, z1, p1, f1⟩ := h1.2 r g (m + (e2 + 1 - e1)) top to hr hl (fun k q1 q2 => hcd k q1 (by omega)) (by omega) hto (by omega)
  obtain ⟨g2, z2, p2, f2⟩ := h2.2 r g1 (m + 1) (top + 1) to hr (fun j hj => (f1.2.1 _ _ (by omega)).trans (hl j hj)) (fun k q1 q2 => ⟨(f1.2.1 _ _ (by omega)).trans (hcd k (by omega) (by omega)).1, (f1.2.1 _ _ (by omega)).trans (hcd k (by omega) (by omega)).2⟩) (by omega) hto (by omega)
  have e1' : gI g2 536 top = Int32.ofInt (v1 r) := (f2.2.1 _ _ (by omega)).trans p1
  have c1 : gI g2 528 (520 * t + e2) = Int32.ofNat (mCo c) := (f2.2.1 _ _ (by omega)).trans ((f1.2.1 _ _ (by omega)).trans ((hcd e2 (by omega) (by omega)).1.trans hK))
  have bb1 := b1 r hr
  have bb2 := b2 r hr
  refine ⟨gsI g2 536 top (Int32.ofInt (mOp c (v1 r) (v2 r))), ?_, qs_Ie, ((f1.mono fun b k w => w).tr (f2.mono fun b k w => ⟨w.1, by omega⟩)).sI ⟨rfl, Nat.le_refl _⟩⟩
  rw [show m + (e2 + 1 - s) = m + (e2 + 1 - e1) + (e1 - s) by omega, z1, show m + (e2 + 1 - e1) = m + 1 + (e2 - e1) by omega, z2]
  show fb_X12_workOut_12 _ _ _ _ _ g2 = _
  unfold fb_X12_workOut_12 f_X12_workOut_165
  rw [if_neg (m_stop ht5 hto (by omega)), if_pos (qi_zib (by omega) (by omega)), qi_ix (by omega), c1, if_neg (show ¬ Int32.ofNat (mCo c) = (0 : Int32) from q_ne (d := 0) (by omega) (by omega) (by omega)), if_pos (qi_zib (by omega) (by omega)), if_pos (show ¬ Int32.ofNat (mCo c) = (1 : Int32) from q_ne (d := 1) (by omega) (by omega) (by omega)), if_pos (qi_zib (by omega) (by omega)), if_pos (show ¬ Int32.ofNat (mCo c) = (9 : Int32) from q_ne (d := 9) (by omega) (by omega) (by omega)), if_pos (qi_zib (by omega) (by omega))]
  rw [show Int32.ofNat (top + 1 + 1) + (-1) = Int32.ofNat (top + 1) from qi_dec (n := top + 1 + 1) (by omega), show Int32.ofNat (top + 1) - 1 = Int32.ofNat top from qi_sub (a := top + 1) (b := 1) (by omega), if_pos (qi_zib (by omega) (by omega)), if_pos (qi_zib (by omega) (by omega)), qi_ix (by omega), qi_ix (by omega), e1', show gI g2 536 (top + 1) = _ from p2, ql_wide (by omega) (by omega), ql_wide (by omega) (by omega), m_worked hc bb1 bb2, qB_s, if_pos (qi_zib (by omega) (by omega)), show Int32.ofNat (520 * t + e2) + 1 = Int32.ofNat (520 * t + (e2 + 1)) from qi_add (520 * t + e2) 1]
theorem mSeg_not {s e w : Nat} {v : mV} (h : mSeg t Kc Kv s e w v) (hK : Kc (520 * t + e) = 9) (hv : mVt v) (hw : 1 ≤ w) (ht5 : t < 5) : mSeg t Kc Kv s (e + 1) w (fun r => 1 - v r) := by
  have l1 := h.1
  refine ⟨by omega, fun r g m top to hr hl hcd he hto htop => ?_⟩
  obtain ⟨g1, z1, p1, f1⟩ := h.2 r g (m + 1) top to hr hl (fun k q1 q2 => hcd k q1 (by omega)) (by omega) hto (by omega)
  have c1 : gI g1 528 (520 * t + e) = 9 := (f1.2.1 _ _ (by omega)).trans ((hcd e (by omega) (by omega)).1.trans hK)
  refine ⟨gsI g1 536 top (Int32.ofInt (1 - v r)), ?_, qs_Ie, f1.sI ⟨rfl, Nat.le_refl _⟩⟩
  rw [show m + (e + 1 - s) = m + 1 + (e - s) by omega, z1]
  show fb_X12_workOut_12 _ _ _ _ _ g1 = _
  unfold fb_X12_workOut_12 f_X12_workOut_165
  rw [if_neg (m_stop ht5 hto (by omega)), if_pos (qi_zib (by omega) (by omega)), qi_ix (by omega), c1, if_neg (by decide), if_pos (qi_zib (by omega) (by omega)), if_pos (by decide), if_pos (qi_zib (by omega) (by omega)), if_neg (by decide), show Int32.ofNat (top + 1) - 1 = Int32.ofNat top from qi_sub (a := top + 1) (b := 1) (by omega), if_pos (qi_zib (by omega) (by omega)), if_pos (qi_zib (by omega) (by omega)), qi_ix (by omega), show gI g1 536 top = _ from p1, show (1 : Int32) - Int32.ofInt (v r) = Int32.ofInt (1 - v r) from qj_sub 1 (v r), show Int32.ofNat (520 * t + e) + 1 = Int32.ofNat (520 * t + (e + 1)) from qi_add (520 * t + e) 1]
end APM
