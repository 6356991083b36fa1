/-! ===== layer 3: the document's own numbers ===== -/
/-- a COAST: how many PERSONS, SECRETS, the ITEMS' numbers (5 of the RULES, 3 of each PERSON from 5 on, 4 of each SECRET from 23 on) -/
abbrev mC : Type := Nat × Nat × (Nat → Nat)
def mW (C : mC) : Nat := C.2.2 0
def mH (C : mC) : Nat := C.2.2 1
def mCells (C : mC) : Nat := mW C * mH C
def mNose (C : mC) (p : Nat) : Nat := C.2.2 (5 + 3 * p + 2)
def mHome (C : mC) (p : Nat) : Nat := C.2.2 (5 + 3 * p + 1) * mW C + C.2.2 (5 + 3 * p)
def mOwn (C : mC) (c : Nat) : Nat := C.2.2 (23 + 4 * c)
def mHvy (C : mC) (c : Nat) : Nat := C.2.2 (23 + 4 * c + 1)
def mShed (C : mC) (c : Nat) : Nat := C.2.2 (23 + 4 * c + 3) * mW C + C.2.2 (23 + 4 * c + 2)
/-- what is so of every COAST, and of none -/
def mWf (C : mC) : Prop := C.1 ≤ 6 ∧ C.2.1 ≤ 6 ∧ mW C ≤ 6 ∧ mH C ≤ 5 ∧ (∀ k, k < 47 → C.2.2 k ≤ 99) ∧ (C.1 = 0 → C.2.1 = 0 ∧ mW C = 0 ∧ ∀ k, k < 47 → C.2.2 k = 0) ∧ (0 < C.1 → 2 ≤ C.1 ∧ 1 ≤ C.2.1 ∧ 2 ≤ mW C ∧ 2 ≤ mH C ∧ C.2.2 4 < 4 ∧ (∀ p, p < C.1 → C.2.2 (5 + 3 * p) < mW C ∧ C.2.2 (5 + 3 * p + 1) < mH C ∧ 1 ≤ mNose C p ∧ mNose C p ≤ 9) ∧ (∀ c, c < C.2.1 → mOwn C c < C.1 ∧ 1 ≤ mHvy C c ∧ mHvy C c ≤ 9 ∧ C.2.2 (23 + 4 * c + 2) < mW C ∧ C.2.2 (23 + 4 * c + 3) < mH C))
theorem mCell_lt {x y w h : Nat} (hx : x < w) (hy : y < h) (hw : w ≤ 6) (hh : h ≤ 5) : y * w + x < w * h := by
  have h1 : y * w + w ≤ w * h := by
    have h2 : (y + 1) * w ≤ h * w := Nat.mul_le_mul_right w hy
    rw [Nat.add_mul, Nat.one_mul, Nat.mul_comm h w] at h2
    exact h2
  omega
theorem mWf.cells {C : mC} (h : mWf C) : mCells C ≤ 30 := by
  have := Nat.mul_le_mul h.2.2.1 h.2.2.2.1
  unfold mCells
  omega
theorem mWf.shed {C : mC} (h : mWf C) {c : Nat} (hc : c < C.2.1) : mShed C c < mCells C := by
  have h0 : 0 < C.1 := by
    rcases Nat.eq_zero_or_pos C.1 with q | q
    · have := (h.2.2.2.2.2.1 q).1; omega
    · exact q
  obtain ⟨-, -, -, -, -, -, hs⟩ := h.2.2.2.2.2.2 h0
  obtain ⟨-, -, -, h1, h2⟩ := hs c hc
  exact mCell_lt h1 h2 h.2.2.1 h.2.2.2.1
theorem mWf.home {C : mC} (h : mWf C) {p : Nat} (hp : p < C.1) : mHome C p < mCells C := by
  obtain ⟨-, -, -, -, -, hs, -⟩ := h.2.2.2.2.2.2 (by omega)
  obtain ⟨h1, h2, -⟩ := hs p hp
  exact mCell_lt h1 h2 h.2.2.1 h.2.2.2.1
theorem mWf.hvy {C : mC} (h : mWf C) {c : Nat} (hc : c < C.2.1) : 1 ≤ mHvy C c ∧ mHvy C c ≤ 9 ∧ mOwn C c < C.1 := by
  have h0 : 0 < C.1 := by
    rcases Nat.eq_zero_or_pos C.1 with q | q
    · have := (h.2.2.2.2.2.1 q).1; omega
    · exact q
  obtain ⟨-, -, -, -, -, -, hs⟩ := h.2.2.2.2.2.2 h0
  obtain ⟨h1, h2, h3, -⟩ := hs c hc
  exact ⟨h2, h3, h1⟩
theorem mWf.nose {C : mC} (h : mWf C) {p : Nat} (hp : p < C.1) : 1 ≤ mNose C p ∧ mNose C p ≤ 9 := by
  obtain ⟨-, -, -, -, -, hs, -⟩ := h.2.2.2.2.2.2 (by omega)
  obtain ⟨-, -, h1, h2⟩ := hs p hp
  exact ⟨h1, h2⟩
/-- the CELL that lies some way -/
def mBes (w h l way : Nat) : Option Nat := if way = 0 then (if 0 < l / w then some (l - w) else none) else if way = 1 then (if l % w + 1 < w then some (l + 1) else none) else if way = 2 then (if l / w + 1 < h then some (l + w) else none) else if way = 3 then (if 0 < l % w then some (l - 1) else none) else none
/-- how many CELLS off, the way the WIND goes -/
def mOff (w s l way : Nat) : Option Nat := if way = 0 then (if l % w = s % w ∧ l / w ≤ s / w then some (s / w - l / w) else none) else if way = 1 then (if l / w = s / w ∧ s % w ≤ l % w then some (l % w - s % w) else none) else if way = 2 then (if l % w = s % w ∧ s / w ≤ l / w then some (l / w - s / w) else none) else (if l / w = s / w ∧ l % w ≤ s % w then some (s % w - l % w) else none)
def mOpt (o : Option Nat) : Int32 := match o with
  | none => -1
  | some n => Int32.ofNat n
/-- bits -/
def mBits (f : Nat → Bool) : Nat → Nat
  | 0 => 0
  | n + 1 => mBits f n ||| (if f n then 1 <<< n else 0)
theorem mBits_tb {f : Nat → Bool} {n i : Nat} : (mBits f n).testBit i = (decide (i < n) && f i) := by
  induction n with
  | zero => simp [mBits]
  | succ n ih =>
    unfold mBits
    rw [Nat.testBit_or, ih]
    by_cases hi : i = n
    · subst hi
      cases hf : f i <;> simp [Nat.testBit_shiftLeft]
    · have h1 : (if f n then 1 <<< n else 0 : Nat).testBit i = false := by
        cases hf : f n
        · simp
        · simp only [if_true]
          rw [Nat.one_shiftLeft, Nat.testBit_two_pow]
          exact decide_eq_false (by omega)
      rw [h1, Bool.or_false]
      congr 1
      exact decide_eq_decide.mpr ⟨fun h => by omega, fun h => by omega⟩
theorem mBits_lt {f : Nat → Bool} {n : Nat} : mBits f n < 2 ^ n := by
  induction n with
  | zero => simp [mBits]
  | succ n ih =>
    unfold mBits
    refine Nat.or_lt_two_pow (Nat.lt_of_lt_of_le ih (Nat.pow_le_pow_right (by omega) (by omega))) ?_
    cases f n
    · simp only [Bool.false_eq_true, if_false]; exact Nat.two_pow_pos _
    · simp only [if_true, Nat.one_shiftLeft]; exact Nat.pow_lt_pow_right (by omega) (by omega)
theorem mBits_ext {f h : Nat → Bool} {n : Nat} (hf : ∀ i, i < n → f i = h i) : mBits f n = mBits h n := by
  refine Nat.eq_of_testBit_eq fun i => ?_
  rw [mBits_tb, mBits_tb]
  by_cases hi : i < n
  · rw [hf i hi]
  · simp [hi]
/-- BREATH of a PERSON of a SECRET stands at 6 + 6 p + c, SMOKED at 42 + c, 48 HANGING, 49 CURED, 50 WIND, 51 OAK, 52 COINS, 53 NIGHT -/
abbrev mL : Type := Nat → Nat
def mKnows (C : mC) (L : mL) (p c : Nat) : Bool := decide (c < C.2.1) && (decide (mOwn C c = p) || decide (mNose C p ≤ L (6 + 6 * p + c)))
def mKn (C : mC) (L : mL) (c : Nat) : Nat := mBits (fun p => mKnows C L p c) C.1
def mKb (C : mC) (L : mL) (p : Nat) : Nat := mBits (fun c => mKnows C L p c) C.2.1
/-- WORTH of a LAW: k f n v t o -/
abbrev mLaw : Type := Nat → Nat → Nat → Nat → Nat → Nat → Int
def mClamp (z : Int) : Nat := (max 0 (min 9 z)).toNat
def mStr (C : mC) (lw : mLaw) (c l hv wind smoked night oak : Nat) : Nat := match mOff (mW C) (mShed C c) l wind with
  | none => 0
  | some f => mClamp (lw hv f smoked wind (night % 100) oak)
theorem mClamp_le {z : Int} : mClamp z ≤ 9 := by unfold mClamp; omega
theorem mStr_le {C : mC} {lw : mLaw} {c l hv wind smoked night oak : Nat} : mStr C lw c l hv wind smoked night oak ≤ 9 := by
  unfold mStr
  split
  · omega
  · exact mClamp_le
def mStrL (C : mC) (lw : mLaw) (L : mL) (o c l : Nat) : Nat := mStr C lw c l (mHvy C c) (L 50) (L (42 + c)) (L 53) o
/-- a SECRET SMOKES -/
def mSmk (C : mC) (lw : mLaw) (o c : Nat) (L : mL) : mL := if (L 48).testBit c && decide (0 < L 51) then fun i => if i = 51 then L 51 - 1 else if i = 42 + c then L (42 + c) + 1 else if 6 ≤ i ∧ i < 42 ∧ (i - 6) % 6 = c ∧ (i - 6) / 6 < C.1 then min 99 (L i + mStrL C lw L o c (L ((i - 6) / 6))) else L i else L
def mSmoke (C : mC) (lw : mLaw) (o : Nat) (L : mL) : Nat → mL
  | 0 => L
  | n + 1 => mSmk C lw o n (mSmoke C lw o L n)
def mDue (C : mC) (L : mL) (c : Nat) : Bool := !(L 49).testBit c && decide (mHvy C c ≤ L (42 + c))
def mCur (C : mC) (c : Nat) (L : mL) : mL := if mDue C L c then fun i => if i = 49 then L 49 ||| (1 <<< c) else if i = 48 then L 48 ^^^ (L 48 &&& (1 <<< c)) else L i else L
def mCure (C : mC) (L : mL) : Nat → mL
  | 0 => L
  | n + 1 => mCur C n (mCure C L n)
def mCured (C : mC) (L : mL) : Nat → Nat
  | 0 => 0
  | n + 1 => mCured C L n + (if mDue C (mCure C L n) n then 1 else 0)
def mCnt (f : Nat → Bool) : Nat → Nat
  | 0 => 0
  | n + 1 => mCnt f n + (if f n then 1 else 0)
theorem mCnt_le {f : Nat → Bool} {n : Nat} : mCnt f n ≤ n := by
  induction n with
  | zero => exact Nat.le_refl _
  | succ n ih => unfold mCnt; split <;> omega
theorem mCnt_ext {f h : Nat → Bool} {n : Nat} (e : ∀ i, i < n → f i = h i) : mCnt f n = mCnt h n := by
  induction n with
  | zero => rfl
  | succ n ih =>
    unfold mCnt
    rw [ih (fun i hi => e i (by omega)), e n (by omega)]
theorem mCnt_add {f h : Nat → Bool} {n t : Nat} (ht : t < n) (e : ∀ i, i < n → i ≠ t → f i = h i) (h0 : f t = false) (h1 : h t = true) : mCnt h n = mCnt f n + 1 := by
  induction n with
  | zero => omega
  | succ n ih =>
    unfold mCnt
    by_cases q : t = n
    · subst q
      rw [h0, h1, mCnt_ext (f := h) (h := f) (fun i hi => (e i (by omega) (by omega)).symm)]
      rfl
    · rw [ih (by omega) (fun i hi hi2 => e i (by omega) hi2), e n (by omega) (by omega)]
      omega
/-- o tells p of c at a TABLE -/
def mTells (C : mC) (L : mL) (o p c : Nat) : Bool := decide (o ≠ p) && decide (L o = L p) && mKnows C L o c && !mKnows C L p c && !(L 49).testBit c
def mHear (C : mC) (L : mL) (p c n : Nat) : Nat := mCnt (fun o => mTells C L o p c) n
def mTell (C : mC) (L : mL) : mL := fun i => if 6 ≤ i ∧ i < 42 ∧ (i - 6) % 6 < C.2.1 ∧ (i - 6) / 6 < C.1 then min 99 (L i + mHear C L ((i - 6) / 6) ((i - 6) % 6) C.1) else L i
def mN1 (C : mC) (lw : mLaw) (L : mL) : mL := mSmoke C lw (L 51) L C.2.1
def mN2 (C : mC) (lw : mLaw) (L : mL) : mL := mCure C (mN1 C lw L) C.2.1
def mNight (C : mC) (lw : mLaw) (L : mL) : mL := fun i => if i = 52 then min 999 (L 52 + 2 * mCured C (mN1 C lw L) C.2.1) else if i = 53 then L 53 + 1 else mTell C (mN2 C lw L) i
/-- bounds -/
def mLb (nb : Nat) (C : mC) (L : mL) : Prop := (∀ p, p < C.1 → L p < mCells C) ∧ (∀ i, 6 ≤ i → i < 42 → L i ≤ 99) ∧ (∀ c, c < 6 → L (42 + c) ≤ 9) ∧ L 48 < 64 ∧ L 49 < 64 ∧ L 50 < 4 ∧ L 51 ≤ 999 ∧ L 52 ≤ 999 ∧ L 53 ≤ nb
/-- what is so of all that is, from NIGHT to NIGHT -/
def mLf (nb : Nat) (C : mC) (L : mL) : Prop := mLb nb C L ∧ (∀ c, c < 6 → C.2.1 ≤ c → L (42 + c) = 0 ∧ (L 48).testBit c = false ∧ (L 49).testBit c = false) ∧ (∀ c, c < C.2.1 → ((L 49).testBit c = true → (L 48).testBit c = false) ∧ ((L 49).testBit c = false → L (42 + c) < mHvy C c))
