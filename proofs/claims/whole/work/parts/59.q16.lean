/-! ===== both sides: ODDS: numbers; the reference's ===== -/
/-- hundredths of a part -/
theorem q_pct {a k : Nat} (ha : a ≤ 1000000000) (hk : k ≤ 100) : (((Int32.ofNat a).toInt64 * (Int32.ofNat k).toInt64) / 100).toInt32 = Int32.ofNat (a * k / 100) := by
  have e1 : (Int32.ofNat a).toInt64 = Int64.ofNat a := Int32.toInt64_ofNat' (by show (a : Int) ≤ 2147483647; omega)
  have e2 : (Int32.ofNat k).toInt64 = Int64.ofNat k := Int32.toInt64_ofNat' (by show (k : Int) ≤ 2147483647; omega)
  have hm : a * k ≤ 1000000000 * 100 := Nat.mul_le_mul ha hk
  rw [e1, e2, ← Int64.ofNat_mul, show (100 : Int64) = Int64.ofNat 100 from rfl, ← Int64.ofNat_div (by omega) (by omega), Int64.toInt32_ofNat']
def oPart (k b part : Nat) : Nat := if b = 1 then part * k / 100 else part - part * k / 100
theorem q_pctle {a k : Nat} (hk : k ≤ 100) : a * k / 100 ≤ a := by
  have h : a * k ≤ a * 100 := Nat.mul_le_mul_left a hk
  have := Nat.div_le_div_right (c := 100) h
  rwa [Nat.mul_div_cancel _ (by omega)] at this
theorem oPart_le {k b part : Nat} (hk : k ≤ 100) (hp : part ≤ 1000000000) : oPart k b part ≤ 1000000000 := by
  have := q_pctle (a := part) hk
  unfold oPart
  split <;> omega
def oSt (C : mC) (lw : mLaw) (L : mL) (b : Nat) : mL := mNight C lw (mLw L ((L 50 + b) % 4))
def oRun (C : mC) (lw : mLaw) (L : mL) : Nat → Nat → mL
  | 0, _ => L
  | d + 1, x => oSt C lw (oRun C lw L d (x / 2)) (x % 2)
def oPrt (k : Nat) : Nat → Nat → Nat
  | 0, _ => 1000000000
  | d + 1, x => oPart k (x % 2) (oPrt k d (x / 2))
theorem oSt_lf {nb b : Nat} {C : mC} {lw : mLaw} {L : mL} (hC : mWf C) (h : mLf nb C L) : mLf (nb + 1) C (oSt C lw L b) := mNight_lf hC (mLw_lf hC (Nat.mod_lt _ (by omega)) h)
theorem oRun_lf {nb : Nat} {C : mC} {lw : mLaw} {L : mL} (hC : mWf C) (h : mLf nb C L) (k x : Nat) : mLf (nb + k) C (oRun C lw L k x) := by
  induction k generalizing x with
  | zero => exact h
  | succ k ih => exact oSt_lf hC (ih (x / 2))
theorem oPrt_le {k d x : Nat} (hk : k ≤ 100) : oPrt k d x ≤ 1000000000 := by
  induction d generalizing x with
  | zero => exact Nat.le_refl _
  | succ d ih => exact oPart_le hk (ih (x := x / 2))
/-- behind m NIGHTS more: all the parts that KNOW -/
def oTot (C : mC) (lw : mLaw) (k p c : Nat) : Nat → mL → Nat → Nat
  | 0, L, part => if mKnows C L p c then part else 0
  | m + 1, L, part => oTot C lw k p c m (oSt C lw L 0) (oPart k 0 part) + oTot C lw k p c m (oSt C lw L 1) (oPart k 1 part)
def oLf (C : mC) (lw : mLaw) (L : mL) (k p c n y : Nat) : Nat := if mKnows C (oRun C lw L n y) p c then oPrt k n y else 0
theorem oTot_eq {C : mC} {lw : mLaw} {L : mL} {k p c n : Nat} : ∀ (m d x : Nat), d + m = n → mSum (oLf C lw L k p c n) ((x + 1) * 2 ^ m) = mSum (oLf C lw L k p c n) (x * 2 ^ m) + oTot C lw k p c m (oRun C lw L d x) (oPrt k d x) := by
  intro m
  induction m with
  | zero =>
    intro d x h
    obtain rfl : d = n := by omega
    rw [Nat.pow_zero, Nat.mul_one, Nat.mul_one]
    rfl
  | succ m ih =>
    intro d x h
    have h1 := ih (d + 1) (2 * x) (by omega)
    have h2 := ih (d + 1) (2 * x + 1) (by omega)
    have r0 : oRun C lw L (d + 1) (2 * x) = oSt C lw (oRun C lw L d x) 0 := by
      show oSt C lw (oRun C lw L d (2 * x / 2)) (2 * x % 2) = _
      rw [show 2 * x / 2 = x by omega, show 2 * x % 2 = 0 by omega]
    have r1 : oRun C lw L (d + 1) (2 * x + 1) = oSt C lw (oRun C lw L d x) 1 := by
      show oSt C lw (oRun C lw L d ((2 * x + 1) / 2)) ((2 * x + 1) % 2) = _
      rw [show (2 * x + 1) / 2 = x by omega, show (2 * x + 1) % 2 = 1 by omega]
    have p0 : oPrt k (d + 1) (2 * x) = oPart k 0 (oPrt k d x) := by
      show oPart k (2 * x % 2) (oPrt k d (2 * x / 2)) = _
      rw [show 2 * x / 2 = x by omega, show 2 * x % 2 = 0 by omega]
    have p1 : oPrt k (d + 1) (2 * x + 1) = oPart k 1 (oPrt k d x) := by
      show oPart k ((2 * x + 1) % 2) (oPrt k d ((2 * x + 1) / 2)) = _
      rw [show (2 * x + 1) / 2 = x by omega, show (2 * x + 1) % 2 = 1 by omega]
    rw [r0, p0] at h1
    rw [r1, p1] at h2
    have e1 : (x + 1) * 2 ^ (m + 1) = (2 * x + 1 + 1) * 2 ^ m := by rw [Nat.pow_succ, show 2 * x + 1 + 1 = (x + 1) * 2 by omega, Nat.mul_assoc, Nat.mul_comm 2]
    have e0 : x * 2 ^ (m + 1) = 2 * x * 2 ^ m := by rw [Nat.pow_succ, Nat.mul_comm 2 x, Nat.mul_assoc, Nat.mul_comm 2]
    rw [e1, e0, h2, h1, Nat.add_assoc]
    rfl
theorem oTot_all {C : mC} {lw : mLaw} {L : mL} {k p c n : Nat} : mSum (oLf C lw L k p c n) (2 ^ n) = oTot C lw k p c n L 1000000000 := by
  have h := oTot_eq (C := C) (lw := lw) (L := L) (k := k) (p := p) (c := c) n 0 0 (by omega : 0 + n = n)
  rw [Nat.zero_mul, Nat.one_mul] at h
  rw [h]
  show 0 + oTot C lw k p c n L 1000000000 = _
  rw [Nat.zero_add]
section Q16
variable {C : mC} {lw : mLaw}
theorem m_oddsF {k p c : Nat} (hC : mWf C) (hp : p < C.1) (hc : c < C.2.1) (hk : k ≤ 100) : ∀ (m d fu part : Nat) (L : mL) (g : zSg), d + m ≤ 6 → m < fu → part ≤ 1000000000 → mLf (999 + d) C L → vMs (999 + d) C lw L g →
    ∃ g', f_X12_oddsFrom fu (Int32.ofNat d) (Int32.ofNat p) (Int32.ofNat c) (Int32.ofNat m) (Int32.ofNat k) (Int32.ofNat part) g = some (Int32.ofNat (oTot C lw k p c m L part), g') ∧ qF (sK d) g g' ∧ (∀ i, i < 54 → g'.2.1 543 i = g.2.1 543 i) := by
  have hS := hC.2.1
  have hP := hC.1
  intro m
  induction m with
  | zero =>
    intro d fu part L g hd hfu hpt hL h
    obtain ⟨fu, rfl⟩ : ∃ f, fu = f + 1 := ⟨fu - 1, by omega⟩
    show ∃ g', f_X12_oddsFrom_b _ _ _ _ _ _ _ _ = _ ∧ _
    unfold f_X12_oddsFrom_b
    rw [if_neg (fun w => w rfl), m_knows h.mk hp hc, qB_s, show (0 : Int32) = Int32.ofNat 0 from rfl]
    refine ⟨g, ?_, qF.rfl', fun i hi => rfl⟩
    simp only [mB_0]
    show _ = some (Int32.ofNat (if mKnows C L p c then part else 0), g)
    cases mKnows C L p c
    · rw [if_pos rfl]; rfl
    · rw [if_neg (by decide)]; rfl
  | succ m ih =>
    intro d fu part L g hd hfu hpt hL h
    obtain ⟨fu, rfl⟩ : ∃ f, fu = f + 1 := ⟨fu - 1, by omega⟩
    obtain ⟨g1, ze, ha, f1⟩ := m_aside (d := d) (g := g) (by omega)
    have F1 : qF (sK d) g g1 := f1.mono fun a j w => by unfold sK; omega
    have e543 : ∀ i, i < 54 → g1.2.1 543 i = g.2.1 543 i := fun i hi => f1.2.1 _ _ (by omega)
    have hle := q_pctle (a := part) hk
    obtain ⟨tot, htot⟩ : ∃ tot : Nat → Nat, tot = fun b => oTot C lw k p c m (oSt C lw L b) (oPart k b part) := ⟨_, rfl⟩
    show ∃ g', f_X12_oddsFrom_b _ _ _ _ _ _ _ _ = _ ∧ _
    unfold f_X12_oddsFrom_b
    rw [show (0 : Int32) = Int32.ofNat 0 from rfl, if_pos (show ¬ Int32.ofNat (m + 1) = Int32.ofNat 0 by rw [qi_inj (by omega) (by omega)]; omega), ze, q_pct hpt hk]
    have et : oTot C lw k p c (m + 1) L part = mSum tot 2 := by
      rw [htot]
      show _ = 0 + _ + _
      rw [Nat.zero_add]
      rfl
    rw [et]
    show ∃ g', f_X12_oddsFrom_46 (f_X12_oddsFrom fu) zFu (Int32.ofNat d) (Int32.ofNat p) (Int32.ofNat c) (Int32.ofNat (m + 1)) (Int32.ofNat k) (Int32.ofNat part) (Int32.ofNat (part * k / 100)) (Int32.ofNat (mSum tot 0)) (Int32.ofNat 0) g1 = _ ∧ _
    refine q_loop (F := fun nn b g => f_X12_oddsFrom_46 (f_X12_oddsFrom fu) nn (Int32.ofNat d) (Int32.ofNat p) (Int32.ofNat c) (Int32.ofNat (m + 1)) (Int32.ofNat k) (Int32.ofNat part) (Int32.ofNat (part * k / 100)) (Int32.ofNat (mSum tot b)) (Int32.ofNat b) g) (N := 2) (Inv := fun b g' => vMs (999 + d) C lw L g' ∧ qF (sK d) g g' ∧ (∀ i, i < 54 → g'.2.1 548 (54 * d + i) = g.2.1 543 i) ∧ (∀ i, i < 54 → g'.2.1 543 i = g.2.1 543 i)) (R := fun o => ∃ g', o = some (Int32.ofNat (mSum tot 2), g') ∧ qF (sK d) g g' ∧ (∀ i, i < 54 → g'.2.1 543 i = g.2.1 543 i)) (by omega) ?_ ?_ (Nat.zero_le _) ⟨h.frK F1 e543, F1, ha, e543⟩
    · intro nn g' ⟨h', ff, h548, h543⟩
      exact ⟨g', rfl, ff, h543⟩
    · intro nn b g' hb ⟨h', ff, h548, h543⟩ ih2
      have h50 : L 50 < 4 := hL.1.2.2.2.2.2.1
      obtain ⟨v, g2, ze2, h2, f2⟩ := m_live (by omega) (mLw_lf hC (Nat.mod_lt _ (by omega)) hL) (h'.wind (w := (L 50 + b) % 4) hL (Nat.mod_lt _ (by omega)))
      have f2' : qF (sK (d + 1)) g' g2 := (qF.rfl'.sI (by unfold sK; omega)).tr (f2.mono fun a j q => sM_K q)
      obtain ⟨g3, ze3, f3, -⟩ := ih (d + 1) fu (oPart k b part) (oSt C lw L b) g2 (by omega) (by omega) (oPart_le hk hpt) (oSt_lf hC hL) h2
      obtain ⟨g4, ze4, hb4, f4⟩ := m_tback (d := d) (g := g3) (by omega)
      have F3 : qF (sK (d + 1)) g' g3 := f2'.tr f3
      have b543 : ∀ i, i < 54 → g4.2.1 543 i = g.2.1 543 i := fun i hi => by
        rw [hb4 i hi, F3.2.1 _ _ (by unfold sK; omega)]
        exact h548 i hi
      have F4 : qF (sK d) g' g4 := (F3.mono fun a j q => by unfold sK at *; omega).tr (f4.mono fun a j q => by unfold sK; omega)
      have ew : imod (gI g' 543 50 + Int32.ofNat b) 4 = Int32.ofNat ((L 50 + b) % 4) := by
        show imod (g'.2.1 543 50 + Int32.ofNat b) (Int32.ofNat 4) = _
        rw [h'.N 50 (by omega), qi_add, qi_imod (by omega) (by omega)]
      have goal : ∃ g', f_X12_oddsFrom_106 (f_X12_oddsFrom fu) (f_X12_oddsFrom_46 (f_X12_oddsFrom fu) nn) (Int32.ofNat d) (Int32.ofNat p) (Int32.ofNat c) (Int32.ofNat (m + 1)) (Int32.ofNat k) (Int32.ofNat part) (Int32.ofNat (part * k / 100)) (Int32.ofNat b) (Int32.ofNat (oPart k b part)) (Int32.ofNat k) (Int32.ofNat (m + 1) - 1) (Int32.ofNat c) (Int32.ofNat p) (Int32.ofNat d + 1) (Int32.ofNat (mSum tot b)) g2 = some (Int32.ofNat (mSum tot 2), g') ∧ qF (sK d) g g' ∧ (∀ i, i < 54 → g'.2.1 543 i = g.2.1 543 i) := by
        unfold f_X12_oddsFrom_106
        simp (disch := omega) only [qi_lit, qi_add, qi_sub, Nat.add_sub_cancel, ze3, zB, ze4]
        have := ih2 g4 ⟨h'.frK F4 (fun i hi => (b543 i hi).trans (h543 i hi).symm), ff.tr F4, fun i hi => by rw [f4.2.1 _ _ (by omega), F3.2.1 _ _ (by unfold sK; omega)]; exact h548 i hi, b543⟩
        have es : mSum tot (b + 1) = mSum tot b + oTot C lw k p c m (oSt C lw L b) (oPart k b part) := by rw [htot]; rfl
        rw [es] at this
        exact this
      show ∃ g', fb_X12_oddsFrom_46 _ _ _ _ _ _ _ _ _ _ _ _ = _ ∧ _
      unfold fb_X12_oddsFrom_46
      rw [if_neg (show ¬ (2 : Int32) ≤ Int32.ofNat b by rw [show (2 : Int32) = Int32.ofNat 2 from rfl, qi_le (by omega) (by omega)]; omega), ew, ze2, qB_s]
      rcases (show b = 0 ∨ b = 1 by omega) with rfl | rfl
      · rw [if_pos (by decide)]
        rw [qi_sub hle]
        exact goal
      · rw [if_neg (by decide)]
        exact goal
end Q16
