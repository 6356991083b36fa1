/-! ===== PERSON, and the law's loop ===== -/
theorem lg_cmp_id {x : Int64} : lg_cmp x x = 0 := by
  unfold lg_cmp
  simp
section BD
variable {g : zSg}
theorem c_person (x w : Int32) (W : mWd) (ok : mWok W) : ∃ (t : Bool) (v : Int32), (∀ g, vWX W g → ∃ g', f_L_person x w g = some (mB t, g') ∧ (t = false → g'.2.2.1 553 0 = v.toInt64) ∧ g'.2.1 = g.2.1 ∧ g'.2.2.2 = g.2.2.2 ∧ g'.1.1 ≤ g.1.1 + 1 ∧ g'.1.2 ≤ g.1.2 + 6) ∧ (∀ g, vWM W g → ∃ g', f_X12_person x w g = some (if t = true then 0 else v, g') ∧ g'.2.1 526 0 = mB t ∧ qF (fun a k => a = 526 ∧ k = 0) g g') := by
  obtain ⟨k1, k2, k3, k4, k5⟩ := ok
  have hP := k2.1
  have e22 : ∀ g : zSg, f_X12_person_22 x w g = some (0, gsI g 526 0 1) := fun g => by
    show f_X12_person_23 x w 1 g = _
    unfold f_X12_person_23
    rw [show gI (gsI g 526 0 1) 526 0 = 1 from qs_Ie, if_neg (fun w => w rfl)]
  have thr : (∀ g, vWX W g → ∃ g', f_L_person x w g = some (1, g') ∧ g' = gbump g) → (∀ g, vWM W g → f_X12_person x w g = some (0, gsI g 526 0 1)) → ∃ (t : Bool) (v : Int32), (∀ g, vWX W g → ∃ g', f_L_person x w g = some (mB t, g') ∧ (t = false → g'.2.2.1 553 0 = v.toInt64) ∧ g'.2.1 = g.2.1 ∧ g'.2.2.2 = g.2.2.2 ∧ g'.1.1 ≤ g.1.1 + 1 ∧ g'.1.2 ≤ g.1.2 + 6) ∧ (∀ g, vWM W g → ∃ g', f_X12_person x w g = some (if t = true then 0 else v, g') ∧ g'.2.1 526 0 = mB t ∧ qF (fun a k => a = 526 ∧ k = 0) g g') := fun hx hm => by
    refine ⟨true, 0, fun g hg => ?_, fun g hg => ?_⟩
    · obtain ⟨g', ze, rfl⟩ := hx g hg
      exact ⟨_, ze, fun w => (by cases w), rfl, rfl, Nat.le_refl _, Nat.le_refl _⟩
    · refine ⟨_, ?_, qs_Ie, qF.rfl'.sI ⟨rfl, rfl⟩⟩
      rw [if_pos rfl]
      exact hm g hg
  by_cases hp : mHas W.2.1.1 x
  · obtain ⟨p, hp, rfl⟩ := hp
    by_cases hw : mHas 3 w
    · obtain ⟨k, hk, rfl⟩ := hw
      have nc : ¬ ((1 : Int32) = 0 ∨ Int32.ofNat k < 0 ∨ 2 < Int32.ofNat k) := by
        rw [show (0 : Int32) = Int32.ofNat 0 from rfl, show (2 : Int32) = Int32.ofNat 2 from rfl, qi_lt (by omega) (by omega), qi_lt (by omega) (by omega)]
        intro h
        rcases h with h | h | h
        · exact absurd h (by decide)
        · omega
        · omega
      have fx : ∀ v : Int32, (∀ g, vWX W g → f_X11_person (Int32.ofNat p) (Int32.ofNat k) g = some (v, g)) → (∀ g, vWM W g → f_X12_person (Int32.ofNat p) (Int32.ofNat k) g = some (v, gsI g 526 0 0)) → ∃ (t : Bool) (v : Int32), (∀ g, vWX W g → ∃ g', f_L_person (Int32.ofNat p) (Int32.ofNat k) g = some (mB t, g') ∧ (t = false → g'.2.2.1 553 0 = v.toInt64) ∧ g'.2.1 = g.2.1 ∧ g'.2.2.2 = g.2.2.2 ∧ g'.1.1 ≤ g.1.1 + 1 ∧ g'.1.2 ≤ g.1.2 + 6) ∧ (∀ g, vWM W g → ∃ g', f_X12_person (Int32.ofNat p) (Int32.ofNat k) g = some (if t = true then 0 else v, g') ∧ g'.2.1 526 0 = mB t ∧ qF (fun a k => a = 526 ∧ k = 0) g g') := fun v hx hm => by
        refine ⟨false, v, fun g hg => ⟨gsJ g 553 0 v.toInt64, ?_, fun _ => qs_Je, rfl, rfl, Nat.le_succ _, Nat.le_add_right _ _⟩, fun g hg => ⟨gsI g 526 0 0, ?_, qs_Ie, qF.rfl'.sI ⟨rfl, rfl⟩⟩⟩
        · unfold f_L_person
          rw [x_hasPerson1 hg.2.1.1 hP hp, qB_s, if_neg nc, hx g hg, qB_s]
          rfl
        · rw [if_neg (by decide)]
          exact hm g hg
      have i3 : ∀ g, f_X12_in (Int32.ofNat k) 0 2 g = some (1, g) := fun g => m_in1 (hi := 2) (n := 3) rfl hk (by omega)
      have hm0 : ∀ g, vWM W g → f_X12_person (Int32.ofNat p) (Int32.ofNat k) g = (if ¬ Int32.ofNat k = (0 : Int32) then (if ¬ Int32.ofNat k = 1 then (zB (f_X12_knownTo (Int32.ofNat p) (gsI g 526 0 0)) (fun v4 g5 => some (v4, g5))) else (zB (f_X12_ofPerson (Int32.ofNat p) 2 (gsI g 526 0 0)) (fun v7 g8 => some (v7, g8)))) else (if zib (0 + Int32.ofNat p) 235 = true then some ((gI (gsI g 526 0 0) 543 (ix (0 + Int32.ofNat p))), (gsI g 526 0 0)) else none)) := fun g hg => by
        unfold f_X12_person
        rw [m_isPerson1 hg.2.1.1 hP hp, qB_s, if_neg (by decide), i3, qB_s, if_neg (by decide)]
        unfold f_X12_person_23
        rw [show gI (gsI g 526 0 0) 526 0 = 0 from qs_Ie, if_pos (by decide)]
      have hx0 : ∀ g, vWX W g → f_X11_person (Int32.ofNat p) (Int32.ofNat k) g = (if Int32.ofNat k = (0 : Int32) then (zB (f_X7_get 40 (Int32.ofNat p) g) (fun v8 g9 => some (v8, g9))) else (if Int32.ofNat k = 1 then (zB (f_X0_nose 3 (Int32.ofNat p) g) (fun v12 g13 => some (v12, g13))) else (zB (f_X8_knownBy 39 (Int32.ofNat p) g) (fun v15 g16 => some (v15, g16))))) := fun g hg => by
        unfold f_X11_person
        rw [x_hasPerson1 hg.2.1.1 hP hp, qB_s, if_neg (by decide), if_neg (show ¬ Int32.ofNat k < (0 : Int32) by rw [show (0 : Int32) = Int32.ofNat 0 from rfl, qi_lt (by omega) (by omega)]; omega), if_pos (show Int32.ofNat k ≤ (2 : Int32) by rw [show (2 : Int32) = Int32.ofNat 2 from rfl, qi_le (by omega) (by omega)]; omega)]
      have fm : ∀ g : zSg, vWM W g → vWM W (gsI g 526 0 0) := fun g hg => hg.fr (S := fun a k => a = 526 ∧ k = 0) (qF.rfl'.sI ⟨rfl, rfl⟩) (fun a k w => by unfold sWM at w; omega)
      rcases (show k = 0 ∨ k = 1 ∨ k = 2 by omega) with rfl | rfl | rfl
      · refine fx (Int32.ofNat (W.2.2.1.1 p)) (fun g hg => ?_) (fun g hg => ?_)
        · rw [hx0 g hg, if_pos (show Int32.ofNat 0 = (0 : Int32) from rfl), q_get40 (by omega), qB_s, show g.2.1 41 p = Int32.ofNat (W.2.2.1.1 p) from hg.2.1.2.1.1.1.1 p (by omega)]
        · rw [hm0 g hg, if_neg (fun w => w rfl), show (0 : Int32) + Int32.ofNat p = Int32.ofNat (0 + p) from qi_add 0 p, Nat.zero_add, if_pos (qi_zib (by omega) (by omega)), qi_ix (by omega), show gI (gsI g 526 0 0) 543 p = Int32.ofNat (W.2.2.1.1 p) from (qs_In (by omega)).trans ((hg.qm k4).2.2 p (by omega))]
      · refine fx (Int32.ofNat (mNose W.2.1 p)) (fun g hg => ?_) (fun g hg => ?_)
        · rw [hx0 g hg, if_neg (by decide), if_pos (show Int32.ofNat 1 = (1 : Int32) from rfl), x_nose hg.2.1.1 (by omega), qB_s]
        · have := m_ofPerson (k := 2) (fm g hg).2.1.1 hP hp (by omega)
          rw [hm0 g hg, if_pos (by decide), if_neg (fun w => w rfl), show f_X12_ofPerson (Int32.ofNat p) 2 (gsI g 526 0 0) = _ from this, qB_s]
          rfl
      · refine fx (Int32.ofNat (mKb W.2.1 W.2.2.1.1 p)) (fun g hg => ?_) (fun g hg => ?_)
        · rw [hx0 g hg, if_neg (by decide), if_neg (by decide), x_knownBy k2 (hg.qx k4) hp, qB_s]
        · rw [hm0 g hg, if_pos (by decide), if_pos (by decide), m_knownTo (((fm g hg).qm k4).mk (k3.q k2)) hp, qB_s]
    · have nc : w < 0 ∨ 2 < w := by
        by_cases h0 : w < 0
        · exact Or.inl h0
        · exact Or.inr (q_lt' (n := 2) (by omega) hw h0)
      refine thr (fun g hg => ⟨gbump g, ?_, rfl⟩) (fun g hg => ?_)
      · unfold f_L_person
        rw [x_hasPerson1 hg.2.1.1 hP hp, qB_s, if_pos (Or.inr nc)]
      · unfold f_X12_person
        rw [m_isPerson1 hg.2.1.1 hP hp, qB_s, if_neg (by decide), m_in0 (hi := 2) (n := 3) rfl hw (by omega), qB_s, if_pos rfl]
        exact e22 g
  · refine thr (fun g hg => ⟨gbump g, ?_, rfl⟩) (fun g hg => ?_)
    · unfold f_L_person
      rw [x_hasPerson0 hg.2.1.1 hP hp, qB_s, if_pos (Or.inl rfl)]
    · unfold f_X12_person
      rw [m_isPerson0 hg.2.1.1 hP hp, qB_s, if_pos rfl]
      exact e22 g
/-- all that is, and how much room was used -/
def vLp (k : Nat) (g : zSg) : Prop := ∃ W, mWok W ∧ vWX W g ∧ vWM W g ∧ g.1.1 ≤ 554 + k ∧ g.1.2 ≤ 24438 + 6 * k
theorem hX.one {g g' : zSg} (h : hX g g') : g'.1 = g.1 := by
  obtain ⟨g1, x, f, rfl⟩ := h
  exact f.1
/-- a call on both sides -/
theorem vLp.call {k : Nat} {FX FM : zSg → Option (Int32 × zSg)} (hd : dC FX FM) (h : vLp k g) : ∃ v g1 g2, FX g = some (v, g1) ∧ FM g1 = some (v, g2) ∧ vLp k g2 := by
  obtain ⟨W, ok, h1, h2, h3, h4⟩ := h
  obtain ⟨v, W', ok', hx, hm⟩ := hd W ok
  obtain ⟨g1, ze1, r1, f1⟩ := hx g h1
  obtain ⟨g2, ze2, r2, f2⟩ := hm g1 (h2.hx f1)
  have e : g2.1 = g.1 := f2.1.trans f1.one
  exact ⟨v, g1, g2, ze1, ze2, W', ok', r1.fr ok'.2.2.2.1.1 f2 (fun a k w => by unfold sWX at w; omega), r2, by rw [e]; exact h3, by rw [e]; exact h4⟩
theorem vLp.up {k : Nat} (h : vLp k g) : vLp (k + 1) g := by
  obtain ⟨W, ok, h1, h2, h3, h4⟩ := h
  exact ⟨W, ok, h1, h2, by omega, by omega⟩
end BD
