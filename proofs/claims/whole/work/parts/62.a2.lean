/-! ===== both sides: an ACT's frame; GIVE ===== -/
def mSet (L : mL) (i v : Nat) : mL := fun j => if j = i then v else L j
theorem mSet_n {L : mL} {i v j : Nat} (h : j ≠ i) : mSet L i v j = L j := if_neg h
theorem mSet_e {L : mL} {i v : Nat} : mSet L i v i = v := if_pos rfl
/-- how it is, the LOG's rows, ACTS to be UNDONE, the IMAGE, REFUSED -/
abbrev mA : Type := mL × (Nat → Nat) × mU × mIm × (Nat → Int32)
def vAX (C : mC) (lw : mLaw) (A : mA) (g : zSg) : Prop := vCo 3 5 C g ∧ vLx lw g ∧ vBX C A.1 (A.1 53) A.2.1 A.2.2.1 A.2.2.2.1 g ∧ vRX A.2.2.2.2 g
def vAM (C : mC) (lw : mLaw) (A : mA) (g : zSg) : Prop := vMo C g ∧ vLm lw g ∧ vBlk 543 0 A.1 (A.1 53) A.2.1 g ∧ g.2.1 526 35 = Int32.ofNat A.2.2.1.length ∧ vKp A.2.2.1 A.2.1 g ∧ vImM A.2.2.2.1 g ∧ vRM A.2.2.2.2 g
def sAX (a _k : Nat) : Prop := 38 ≤ a ∧ a ≤ 422
def sAM (a k : Nat) : Prop := a = 543 ∨ a = 544 ∨ a = 547 ∨ (a = 526 ∧ k = 35)
theorem q_rng {x : Int32} {hi : Nat} (hh : hi < 1000000) : (∃ k, 1 ≤ k ∧ k ≤ hi ∧ x = Int32.ofNat k) ∨ x < 1 ∨ (¬ x < 1 ∧ Int32.ofNat hi < x) := by
  have q0 : (1 : Int32).toInt = 1 := rfl
  have q1 := Int32.toInt_lt x
  have q2 : (Int32.ofNat hi).toInt = hi := by rw [qj_of, qj_toInt (by omega) (by omega)]
  by_cases h1 : x < 1
  · exact Or.inr (Or.inl h1)
  · by_cases h2 : Int32.ofNat hi < x
    · exact Or.inr (Or.inr ⟨h1, h2⟩)
    · refine Or.inl ⟨x.toInt.toNat, ?_, ?_, ?_⟩
      · rw [Int32.lt_iff_toInt_lt, q0] at h1; omega
      · rw [Int32.lt_iff_toInt_lt, q2] at h2; omega
      · rw [Int32.lt_iff_toInt_lt, q0] at h1
        rw [qj_of, Int.toNat_of_nonneg (by omega), Int32.ofInt_toInt]
theorem vBlk.set {L : mL} {n i v : Nat} {E : Nat → Nat} {g : zSg} (hi : i < 54) (h : vBlk 543 0 L n E g) : vBlk 543 0 (mSet L i v) n E (gsI g 543 i (Int32.ofNat v)) := by
  obtain ⟨h1, h2, h3⟩ := h
  refine ⟨fun j hj => ?_, ?_, fun j k q1 q2 q3 => ?_⟩
  · by_cases q : j = i
    · subst q; rw [show 0 + j = j by omega, qs_Ie, mSet_e]
    · rw [qs_In (by omega), mSet_n q]; exact h1 j hj
  · rw [qs_In (by omega)]; exact h2
  · rw [qs_In (by omega)]; exact h3 j k q1 q2 q3
section A2
variable {C : mC} {lw : mLaw}
theorem vBX.coins {L : mL} {n v : Nat} {E : Nat → Nat} {U : mU} {Im : mIm} {g : zSg} (hP : C.1 ≤ 6) (h : vBX C L n E U Im g) : vBX C (mSet L 52 v) n E U Im (gsI g 39 8 (Int32.ofNat v)) := by
  have f : qF (fun a k => a = 39 ∧ k = 8) g (gsI g 39 8 (Int32.ofNat v)) := qF.rfl'.sI ⟨rfl, rfl⟩
  obtain ⟨⟨⟨s1, s2, s3, s4, s5, s6, s7, s8⟩, hb, h10⟩, hr, ⟨x, hx, x1, x2⟩, h6, hU, hI⟩ := h
  have hk : ∀ c, c < 6 → mKn C (mSet L 52 v) c = mKn C L c := fun c hc => mBits_ext fun p hp => by
    unfold mKnows
    rw [mSet_n (by omega)]
  refine ⟨⟨⟨fun p hp => ?_, fun c hc => ?_, ?_, ?_, ?_, ?_, ?_, ?_⟩, fun c hc hm => ⟨?_, fun p hp => ?_⟩, ?_⟩, fun j k q1 q2 q3 => ?_, ⟨x, hx, ?_, ?_⟩, ?_, hU, ?_⟩
  · rw [qs_In (by omega), mSet_n (by omega)]; exact s1 p hp
  · rw [qs_In (by omega), mSet_n (by omega)]; exact s2 c hc
  · rw [qs_In (by omega), mSet_n (by omega)]; exact s3
  · rw [qs_In (by omega), mSet_n (by omega)]; exact s4
  · rw [qs_In (by omega), mSet_n (by omega)]; exact s5
  · rw [qs_In (by omega), mSet_n (by omega)]; exact s6
  · rw [qs_Ie, mSet_e]
  · rw [qs_In (by omega), mSet_n (by omega)]; exact s8
  · rw [qs_In (by omega), hk c hc]; exact (hb c hc hm).1
  · rw [qs_In (by omega), mSet_n (by omega)]; exact (hb c hc hm).2 p hp
  · rw [qs_In (by omega)]; exact h10
  · rw [qs_In (by omega)]; exact hr j k q1 q2 q3
  · rw [qs_In (by omega)]; exact x1
  · exact x2.fr f (fun b k q1 q2 => by omega) (fun k => by omega)
  · rw [qs_In (by omega)]; exact h6
  · exact hI.fr f (by omega) (fun b k q1 q2 => by omega)
theorem x_rem {L : mL} {n : Nat} {E : Nat → Nat} {U : mU} {Im : mIm} {g : zSg} (h : vBX C L n E U Im g) : ∃ g', f_X6_remember 39 g = some ((), g') ∧ vBX C L n E (((L, n) :: U).take 40) Im g' ∧ qF sU g g' := by
  obtain ⟨hs, hr, ⟨x, hx, x1, x2⟩, h6, hU, hI⟩ := h
  obtain ⟨g', ze, u1, u2, u3, f⟩ := x_remember hs hr hx x1 h6 hU x2
  refine ⟨g', ze, ⟨hs.fr f (fun b k q1 q2 => by unfold sU; omega), fun j k q1 q2 q3 => ?_, ⟨(x + 1) % 40, Nat.mod_lt _ (by omega), u2, u1⟩, u3, ?_, hI.fr f (by unfold sU; omega) (fun b k q1 q2 => by unfold sU; omega)⟩, f⟩
  · rw [f.2.1 _ _ (by unfold sU; omega)]; exact hr j k q1 q2 q3
  · rw [List.length_take]; omega
end A2
