/-! ===== both sides: the COAST's TEXT, read ===== -/
section AL
variable {T : mTk} {C : mC}
theorem x_take {i c : Nat} {g : zSg} (hT : mTpOk T) (h : vTpX T g) (hp : g.2.1 1 2 = Int32.ofNat i) (hi : i ≤ T.1) (hc : c < 256) : ∃ g', f_X9_take (Int32.ofNat c) g = some (mB (decide (mAt T (mSk T i) = c)), g') ∧ g'.2.1 1 2 = Int32.ofNat (if mAt T (mSk T i) = c then mSk T i + 1 else mSk T i) ∧ qF sTX g g' := by
  have h240 := hT.1
  obtain ⟨g1, ze1, p1, f1⟩ := x_next hT h hp hi
  have hlt := mAt_lt (i := mSk T i) hT
  unfold f_X9_take
  rw [ze1, qB_s]
  by_cases q : mAt T (mSk T i) = c
  · rw [if_pos (show Int32.ofNat (mAt T (mSk T i)) = Int32.ofNat c by rw [q]), if_pos q, decide_eq_true q, show gI g1 1 2 + 1 = Int32.ofNat (mSk T i + 1) by rw [show gI g1 1 2 = Int32.ofNat (mSk T i) from p1]; exact qi_add _ 1]
    exact ⟨_, rfl, qs_Ie, f1.sI ⟨rfl, rfl⟩⟩
  · rw [if_neg (show ¬ Int32.ofNat (mAt T (mSk T i)) = Int32.ofNat c from q_ne (by omega) (by omega) q), if_neg q, decide_eq_false q]
    exact ⟨g1, rfl, p1, f1⟩
theorem d_rest (hT : mTpOk T) : ∀ (r : Nat) (C : mC) (rl : Bool) (i : Nat), i ≤ T.1 → T.1 - i ≤ r → mDk C → ∃ ok P C', P ≤ T.1 ∧ (ok = true → mDk C' ∧ mStd C' = true) ∧
    (∀ n cnt g, r < n → cnt + (T.1 - i) ≤ 240 → vTpX T g → g.2.1 1 2 = Int32.ofNat i → vDX C g → g.2.1 6 2 = mB rl → ∃ g', zB (f_X1_clause g) (fun v g1 => f_X1_read_33 n v (Int32.ofNat cnt) g1) = some ((if ok = true then -1 else Int32.ofNat P), g') ∧ (ok = true → vDX C' g') ∧ qF sCX g g') ∧
    (∀ n g, r + 1 < n → vTpM T g → g.2.1 526 3 = Int32.ofNat i → g.2.1 526 4 = -1 → vDM C g → ∃ g', f_X12_readCoast_49 n (mB rl) 1 g = some ((if ok = true then -1 else Int32.ofNat P), g') ∧ (ok = true → vDM C' g') ∧ qF sCM g g') := by
  have h240 := hT.1
  intro r
  induction r with
  | zero =>
    intro C rl i hi hr hD
    obtain ⟨ok, P, C', rl', c1, c2, cX, cM⟩ := d_clause hT hD hi rl
    have hok : ok = false := by cases ok with | true => have := (c2 rfl).1; omega | false => rfl
    subst hok
    refine ⟨false, P, C, c1, fun w => (by cases w), ?_, ?_⟩
    · intro n cnt g hn hcn h hp hd hrl
      obtain ⟨n, rfl⟩ : ∃ n', n = n' + 1 := ⟨n - 1, by omega⟩
      obtain ⟨g1, ze1, p1, -, f1⟩ := cX g h hp hd hrl
      refine ⟨g1, ?_, fun w => (by cases w), f1⟩
      rw [ze1, qB_s]
      show fb_X1_read_33 _ _ _ g1 = _
      unfold fb_X1_read_33 f_X1_read_67 f_X1_read_95 f_X9_place
      rw [if_pos (by decide), if_pos (by decide), qB_s, show gI g1 1 2 = Int32.ofNat P from p1, if_neg (by decide)]
    · intro n g hn h hp hw hd
      obtain ⟨n, rfl⟩ : ∃ n', n = n' + 1 + 1 := ⟨n - 2, by omega⟩
      obtain ⟨g1, ze1, -, a2, f1⟩ := cM (n + 1) g h hp hw hd
      obtain ⟨g2, ze2, f2⟩ := m_214b (n := n) (y := mB rl') hT (h.fr f1 (by unfold sCM; omega) (fun k => by unfold sCM; omega)) c1 (a2 rfl)
      refine ⟨g2, ?_, fun w => (by cases w), f1.tr (f2.mono fun a k w => by unfold sTM at w; unfold sCM; omega)⟩
      rw [ze1, ze2, if_neg (by decide)]
  | succ r ih =>
    intro C rl i hi hr hD
    obtain ⟨ok, P, C', rl', c1, c2, cX, cM⟩ := d_clause hT hD hi rl
    cases ok with
    | false =>
      refine ⟨false, P, C, c1, fun w => (by cases w), ?_, ?_⟩
      · intro n cnt g hn hcn h hp hd hrl
        obtain ⟨n, rfl⟩ : ∃ n', n = n' + 1 := ⟨n - 1, by omega⟩
        obtain ⟨g1, ze1, p1, -, f1⟩ := cX g h hp hd hrl
        refine ⟨g1, ?_, fun w => (by cases w), f1⟩
        rw [ze1, qB_s]
        show fb_X1_read_33 _ _ _ g1 = _
        unfold fb_X1_read_33 f_X1_read_67 f_X1_read_95 f_X9_place
        rw [if_pos (by decide), if_pos (by decide), qB_s, show gI g1 1 2 = Int32.ofNat P from p1, if_neg (by decide)]
      · intro n g hn h hp hw hd
        obtain ⟨n, rfl⟩ : ∃ n', n = n' + 1 + 1 := ⟨n - 2, by omega⟩
        obtain ⟨g1, ze1, -, a2, f1⟩ := cM (n + 1) g h hp hw hd
        obtain ⟨g2, ze2, f2⟩ := m_214b (n := n) (y := mB rl') hT (h.fr f1 (by unfold sCM; omega) (fun k => by unfold sCM; omega)) c1 (a2 rfl)
        refine ⟨g2, ?_, fun w => (by cases w), f1.tr (f2.mono fun a k w => by unfold sTM at w; unfold sCM; omega)⟩
        rw [ze1, ze2, if_neg (by decide)]
    | true =>
      obtain ⟨d1, d2, d3⟩ := c2 rfl
      by_cases hs : mAt T P = 59
      · have hPT : P < T.1 := (mAt_in hT).mp (by omega)
        obtain ⟨ok, P2, C2, e1, e2, eX, eM⟩ := ih C' rl' (P + 1) (by omega) (by omega) d3
        refine ⟨ok, P2, C2, e1, e2, ?_, ?_⟩
        · intro n cnt g hn hcn h hp hd hrl
          obtain ⟨n, rfl⟩ : ∃ n', n = n' + 1 := ⟨n - 1, by omega⟩
          obtain ⟨g1, ze1, p1, a1, f1⟩ := cX g h hp hd hrl
          obtain ⟨b1, b2⟩ := a1 rfl
          have hv1 := h.fr f1 (by unfold sCX; omega) (fun k => by unfold sCX; omega)
          obtain ⟨g2, ze2, p2, f2⟩ := x_take (c := 59) hT hv1 p1 c1 (by omega)
          rw [d2, hs, if_pos rfl] at p2
          rw [d2, decide_eq_true hs] at ze2
          have ze3 : f_X9_take 59 g1 = some (mB true, g2) := ze2
          obtain ⟨g3, ze4, k1, f3⟩ := eX n (cnt + 1) g2 (by omega) (by omega) (hv1.fr f2 (by unfold sTX; omega) (fun k => by unfold sTX; omega)) p2 ⟨(f2.2.1 _ _ (by unfold sTX; omega)).trans b1.1, (f2.2.1 _ _ (by unfold sTX; omega)).trans b1.2.1, fun k hk => (f2.2.1 _ _ (by unfold sTX; omega)).trans (b1.2.2 k hk)⟩ ((f2.2.1 _ _ (by unfold sTX; omega)).trans b2)
          refine ⟨g3, ?_, k1, (f1.tr (f2.mono fun a k w => Or.inl w)).tr f3⟩
          rw [ze1, qB_s]
          show fb_X1_read_33 _ _ _ g1 = _
          unfold fb_X1_read_33
          rw [if_neg (by decide), if_neg (show ¬ (240 : Int32) ≤ Int32.ofNat cnt by rw [show (240 : Int32) = Int32.ofNat 240 from rfl, qi_le (by omega) (by omega)]; omega), ze3, qB_s, if_neg (by decide), show Int32.ofNat cnt + 1 = Int32.ofNat (cnt + 1) from qi_add cnt 1]
          exact ze4
        · intro n g hn h hp hw hd
          obtain ⟨n, rfl⟩ : ∃ n', n = n' + 1 := ⟨n - 1, by omega⟩
          obtain ⟨g1, ze1, a1, -, f1⟩ := cM n g h hp hw hd
          obtain ⟨b1, b2, b3⟩ := a1 rfl
          have hv1 := h.fr f1 (by unfold sCM; omega) (fun k => by unfold sCM; omega)
          obtain ⟨g2, ze2, p2, f2⟩ := m_look hT hv1 b2 (by omega)
          rw [d2] at ze2 p2
          have F2 : qF (fun a k => a = 526 ∧ k = 3) g1 (gsI g2 526 3 (Int32.ofNat (P + 1))) := f2.sI ⟨rfl, rfl⟩
          obtain ⟨g3, ze4, k1, f3⟩ := eM n (gsI g2 526 3 (Int32.ofNat (P + 1))) (by omega) (hv1.fr F2 (by omega) (fun k => by omega)) qs_Ie ((F2.2.1 _ _ (by omega)).trans b1) ⟨(F2.2.1 _ _ (by omega)).trans b3.1, (F2.2.1 _ _ (by omega)).trans b3.2.1, fun k hk => (F2.2.1 _ _ (by omega)).trans (b3.2.2.1 k hk), fun p k q1 q2 => (F2.2.1 _ _ (by omega)).trans (b3.2.2.2.1 p k q1 q2), fun c k q1 q2 => (F2.2.1 _ _ (by omega)).trans (b3.2.2.2.2 c k q1 q2)⟩
          refine ⟨g3, ?_, k1, (f1.tr (F2.mono fun a k w => by unfold sCM; omega)).tr f3⟩
          rw [ze1]
          unfold f_X12_readCoast_214 f_X12_readCoast_236 f_X12_readCoast_251
          rw [if_neg (fun w => w b1), ze2, qB_s, if_neg (show ¬ ¬ mAtM T P = (59 : Int32) from fun w => w ((mAtM_eq hT (c := 59) (by omega) (by omega)).mpr hs)), if_neg (by decide), show gI g2 526 3 + 1 = Int32.ofNat (P + 1) by rw [show gI g2 526 3 = Int32.ofNat P from p2]; exact qi_add _ 1]
          exact ze4
      · -- no more CLAUSES
        have hgood : ∀ n cnt g, cnt + (T.1 - i) ≤ 240 → vTpX T g → g.2.1 1 2 = Int32.ofNat i → vDX C g → g.2.1 6 2 = mB rl → ∃ g2, zB (f_X1_clause g) (fun v g1 => f_X1_read_33 (n + 1) v (Int32.ofNat cnt) g1) = f_X1_read_67 (mB true) g2 ∧ vTpX T g2 ∧ g2.2.1 1 2 = Int32.ofNat P ∧ vDX C' g2 ∧ qF sCX g g2 := by
          intro n cnt g hcn h hp hd hrl
          obtain ⟨g1, ze1, p1, a1, f1⟩ := cX g h hp hd hrl
          obtain ⟨b1, b2⟩ := a1 rfl
          have hv1 := h.fr f1 (by unfold sCX; omega) (fun k => by unfold sCX; omega)
          obtain ⟨g2, ze2, p2, f2⟩ := x_take (c := 59) hT hv1 p1 c1 (by omega)
          rw [d2, if_neg hs] at p2
          rw [d2, decide_eq_false hs] at ze2
          have ze3 : f_X9_take 59 g1 = some (mB false, g2) := ze2
          refine ⟨g2, ?_, hv1.fr f2 (by unfold sTX; omega) (fun k => by unfold sTX; omega), p2, ⟨(f2.2.1 _ _ (by unfold sTX; omega)).trans b1.1, (f2.2.1 _ _ (by unfold sTX; omega)).trans b1.2.1, fun k hk => (f2.2.1 _ _ (by unfold sTX; omega)).trans (b1.2.2 k hk)⟩, f1.tr (f2.mono fun a k w => Or.inl w)⟩
          rw [ze1, qB_s]
          show fb_X1_read_33 _ _ _ g1 = _
          unfold fb_X1_read_33
          rw [if_neg (by decide), if_neg (show ¬ (240 : Int32) ≤ Int32.ofNat cnt by rw [show (240 : Int32) = Int32.ofNat 240 from rfl, qi_le (by omega) (by omega)]; omega), ze3, qB_s, if_pos (by decide)]
        have hgoodM : ∀ n g, vTpM T g → g.2.1 526 3 = Int32.ofNat i → g.2.1 526 4 = -1 → vDM C g → ∃ g2, f_X12_readCoast_49 (n + 1 + 1) (mB rl) 1 g = f_X12_readCoast_258 g2 ∧ vTpM T g2 ∧ g2.2.1 526 3 = Int32.ofNat P ∧ g2.2.1 526 4 = -1 ∧ vDM C' g2 ∧ qF sCM g g2 := by
          intro n g h hp hw hd
          obtain ⟨g1, ze1, a1, -, f1⟩ := cM (n + 1) g h hp hw hd
          obtain ⟨b1, b2, b3⟩ := a1 rfl
          have hv1 := h.fr f1 (by unfold sCM; omega) (fun k => by unfold sCM; omega)
          obtain ⟨g2, ze2, p2, f2⟩ := m_look hT hv1 b2 (by omega)
          rw [d2] at ze2 p2
          have F2 : qF (fun a k => a = 526 ∧ k = 3) g1 (gsI g2 526 3 (Int32.ofNat P)) := f2.sI ⟨rfl, rfl⟩
          refine ⟨gsI g2 526 3 (Int32.ofNat P), ?_, hv1.fr F2 (by omega) (fun k => by omega), qs_Ie, (F2.2.1 _ _ (by omega)).trans b1, ⟨(F2.2.1 _ _ (by omega)).trans b3.1, (F2.2.1 _ _ (by omega)).trans b3.2.1, fun k hk => (F2.2.1 _ _ (by omega)).trans (b3.2.2.1 k hk), fun p k q1 q2 => (F2.2.1 _ _ (by omega)).trans (b3.2.2.2.1 p k q1 q2), fun c k q1 q2 => (F2.2.1 _ _ (by omega)).trans (b3.2.2.2.2 c k q1 q2)⟩, f1.tr (F2.mono fun a k w => by unfold sCM; omega)⟩
          rw [ze1]
          unfold f_X12_readCoast_214 f_X12_readCoast_235 f_X12_readCoast_236 f_X12_readCoast_251
          rw [if_neg (fun w => w b1), ze2, qB_s, if_pos (mAtM_ne (i := P) (c := 59) (x := 59) hT rfl (by omega) (by omega) hs), if_pos rfl, show gI g2 526 3 + 0 = Int32.ofNat P by rw [show gI g2 526 3 = Int32.ofNat P from p2]; exact qi_add _ 0]
          show fb_X12_readCoast_49 _ _ _ _ = _
          unfold fb_X12_readCoast_49
          rw [if_pos rfl]
        by_cases he : mAt T P = 0
        · cases hst : mStd C' with
          | true =>
            refine ⟨true, P, C', c1, fun _ => ⟨d3, hst⟩, ?_, ?_⟩
            · intro n cnt g hn hcn h hp hd hrl
              obtain ⟨n, rfl⟩ : ∃ n', n = n' + 1 := ⟨n - 1, by omega⟩
              obtain ⟨g2, ze, hv2, p2, hd2, f2⟩ := hgood n cnt g hcn h hp hd hrl
              obtain ⟨g3, ze3, p3, f3⟩ := x_next hT hv2 p2 c1
              rw [d2, he] at ze3
              have hd3 : vDX C' g3 := ⟨(f3.2.1 _ _ (by unfold sTX; omega)).trans hd2.1, (f3.2.1 _ _ (by unfold sTX; omega)).trans hd2.2.1, fun k hk => (f3.2.1 _ _ (by unfold sTX; omega)).trans (hd2.2.2 k hk)⟩
              refine ⟨g3, ?_, fun _ => hd3, f2.tr (f3.mono fun a k w => Or.inl w)⟩
              rw [ze]
              unfold f_X1_read_67
              rw [if_neg (by decide), ze3, qB_s, if_neg (fun w => w rfl), x_stands hd3 d3, qB_s, hst, if_neg (by decide), if_pos rfl]
            · intro n g hn h hp hw hd
              obtain ⟨n, rfl⟩ : ∃ n', n = n' + 1 + 1 := ⟨n - 2, by omega⟩
              obtain ⟨g2, ze, hv2, p2, hw2, hd2, f2⟩ := hgoodM n g h hp hw hd
              obtain ⟨g3, ze3, p3, f3⟩ := m_look hT hv2 p2 (by omega)
              rw [d2] at ze3
              have hd3 : vDM C' g3 := ⟨(f3.2.1 _ _ (by omega)).trans hd2.1, (f3.2.1 _ _ (by omega)).trans hd2.2.1, fun k hk => (f3.2.1 _ _ (by omega)).trans (hd2.2.2.1 k hk), fun p k q1 q2 => (f3.2.1 _ _ (by omega)).trans (hd2.2.2.2.1 p k q1 q2), fun c k q1 q2 => (f3.2.1 _ _ (by omega)).trans (hd2.2.2.2.2 c k q1 q2)⟩
              refine ⟨g3, ?_, fun _ => hd3, f2.tr (f3.mono fun a k w => by unfold sCM; omega)⟩
              rw [ze]
              unfold f_X12_readCoast_258 f_X12_readCoast_285
              rw [if_neg (fun w => w hw2), ze3, qB_s, if_neg (show ¬ ¬ mAtM T P = -1 from fun w => w (by rw [mAtM_end hT]; exact he)), m_isWhole hd3 d3, qB_s, hst, if_pos (by decide), show gI g3 526 4 = -1 from (f3.2.1 _ _ (by omega)).trans hw2, if_pos rfl]
          | false =>
            refine ⟨false, P, C', c1, fun w => (by cases w), ?_, ?_⟩
            · intro n cnt g hn hcn h hp hd hrl
              obtain ⟨n, rfl⟩ : ∃ n', n = n' + 1 := ⟨n - 1, by omega⟩
              obtain ⟨g2, ze, hv2, p2, hd2, f2⟩ := hgood n cnt g hcn h hp hd hrl
              obtain ⟨g3, ze3, p3, f3⟩ := x_next hT hv2 p2 c1
              rw [d2, he] at ze3
              rw [d2] at p3
              have hd3 : vDX C' g3 := ⟨(f3.2.1 _ _ (by unfold sTX; omega)).trans hd2.1, (f3.2.1 _ _ (by unfold sTX; omega)).trans hd2.2.1, fun k hk => (f3.2.1 _ _ (by unfold sTX; omega)).trans (hd2.2.2 k hk)⟩
              refine ⟨g3, ?_, fun w => (by cases w), f2.tr (f3.mono fun a k w => Or.inl w)⟩
              rw [ze]
              unfold f_X1_read_67 f_X1_read_95 f_X9_place
              rw [if_neg (by decide), ze3, qB_s, if_neg (fun w => w rfl), x_stands hd3 d3, qB_s, hst, if_pos (by decide), qB_s, show gI g3 1 2 = Int32.ofNat P from p3, if_neg (by decide)]
            · intro n g hn h hp hw hd
              obtain ⟨n, rfl⟩ : ∃ n', n = n' + 1 + 1 := ⟨n - 2, by omega⟩
              obtain ⟨g2, ze, hv2, p2, hw2, hd2, f2⟩ := hgoodM n g h hp hw hd
              obtain ⟨g3, ze3, p3, f3⟩ := m_look hT hv2 p2 (by omega)
              rw [d2] at ze3 p3
              have hd3 : vDM C' g3 := ⟨(f3.2.1 _ _ (by omega)).trans hd2.1, (f3.2.1 _ _ (by omega)).trans hd2.2.1, fun k hk => (f3.2.1 _ _ (by omega)).trans (hd2.2.2.1 k hk), fun p k q1 q2 => (f3.2.1 _ _ (by omega)).trans (hd2.2.2.2.1 p k q1 q2), fun c k q1 q2 => (f3.2.1 _ _ (by omega)).trans (hd2.2.2.2.2 c k q1 q2)⟩
              refine ⟨gsI g3 526 4 (Int32.ofNat P), ?_, fun w => (by cases w), (f2.tr (f3.mono fun a k w => by unfold sCM; omega)).sI (Or.inl ⟨rfl, by omega⟩)⟩
              rw [ze]
              unfold f_X12_readCoast_258 f_X12_readCoast_281 f_X12_readCoast_285
              rw [if_neg (fun w => w hw2), ze3, qB_s, if_neg (show ¬ ¬ mAtM T P = -1 from fun w => w (by rw [mAtM_end hT]; exact he)), m_isWhole hd3 d3, qB_s, hst, if_neg (by decide), m_bad ((f3.2.1 _ _ (by omega)).trans hw2) p3, qB_s, show gI (gsI g3 526 4 (Int32.ofNat P)) 526 4 = Int32.ofNat P from qs_Ie, if_neg (by decide)]
        · refine ⟨false, P, C', c1, fun w => (by cases w), ?_, ?_⟩
          · intro n cnt g hn hcn h hp hd hrl
            obtain ⟨n, rfl⟩ : ∃ n', n = n' + 1 := ⟨n - 1, by omega⟩
            obtain ⟨g2, ze, hv2, p2, hd2, f2⟩ := hgood n cnt g hcn h hp hd hrl
            obtain ⟨g3, ze3, p3, f3⟩ := x_next hT hv2 p2 c1
            rw [d2] at p3 ze3
            have hlt := mAt_lt (i := P) hT
            refine ⟨g3, ?_, fun w => (by cases w), f2.tr (f3.mono fun a k w => Or.inl w)⟩
            rw [ze]
            unfold f_X1_read_67 f_X1_read_95 f_X9_place
            rw [if_neg (by decide), ze3, qB_s, if_pos (show ¬ Int32.ofNat (mAt T P) = (0 : Int32) from q_ne (d := 0) (by omega) (by omega) he), qB_s, show gI g3 1 2 = Int32.ofNat P from p3, if_neg (by decide)]
          · intro n g hn h hp hw hd
            obtain ⟨n, rfl⟩ : ∃ n', n = n' + 1 + 1 := ⟨n - 2, by omega⟩
            obtain ⟨g2, ze, hv2, p2, hw2, hd2, f2⟩ := hgoodM n g h hp hw hd
            obtain ⟨g3, ze3, p3, f3⟩ := m_look hT hv2 p2 (by omega)
            rw [d2] at ze3 p3
            refine ⟨gsI g3 526 4 (Int32.ofNat P), ?_, fun w => (by cases w), (f2.tr (f3.mono fun a k w => by unfold sCM; omega)).sI (Or.inl ⟨rfl, by omega⟩)⟩
            rw [ze]
            unfold f_X12_readCoast_258 f_X12_readCoast_281 f_X12_readCoast_285
            rw [if_neg (fun w => w hw2), ze3, qB_s, if_pos (show ¬ mAtM T P = -1 by rw [mAtM_end hT]; exact he), m_bad ((f3.2.1 _ _ (by omega)).trans hw2) p3, qB_s, show gI (gsI g3 526 4 (Int32.ofNat P)) 526 4 = Int32.ofNat P from qs_Ie, if_neg (by decide)]
/-- the COAST's TEXT: the same FAULT, the same COAST -/
theorem x_clear {a n : Nat} {g : zSg} (hK : (zK0 (a + 1)).2 = n) (hn : n < 100000) : ∃ g', f_X7_clear a g = some ((), g') ∧ (∀ k, k < n → g'.2.1 (a + 1) k = Int32.ofNat 0) ∧ qF (fun b _ => b = a + 1) g g' := by
  unfold f_X7_clear
  refine q_loop (F := fun m k g => f_X7_clear_2 a m (Int32.ofNat k) g) (N := n) (Inv := fun k g1 => (∀ q, q < k → g1.2.1 (a + 1) q = Int32.ofNat 0) ∧ qF (fun b _ => b = a + 1) g g1) (R := fun w => ∃ g', w = some ((), g') ∧ (∀ k, k < n → g'.2.1 (a + 1) k = Int32.ofNat 0) ∧ qF (fun b _ => b = a + 1) g g') (by omega) ?_ ?_ (s := 0) (by omega) ⟨fun q hq => by omega, qF.rfl'⟩
  · intro m g1 ⟨h1, f1⟩
    refine ⟨g1, ?_, h1, f1⟩
    show fb_X7_clear_2 _ _ _ g1 = _
    unfold fb_X7_clear_2
    rw [hK, if_pos (show Int32.ofNat n ≤ Int32.ofNat n by rw [qi_le (by omega) (by omega)]; exact Nat.le_refl _)]
  · intro m k g1 hkm ⟨h1, f1⟩ ih
    show ∃ g', fb_X7_clear_2 _ _ _ g1 = _ ∧ _
    unfold fb_X7_clear_2
    rw [hK, if_neg (show ¬ Int32.ofNat n ≤ Int32.ofNat k by rw [qi_le (by omega) (by omega)]; omega), if_pos (qi_zib (by omega) (by omega)), qi_ix (by omega), show Int32.ofNat k + 1 = Int32.ofNat (k + 1) from qi_add k 1]
    refine ih _ ⟨fun q hq => ?_, f1.sI rfl⟩
    by_cases e : q = k
    · subst e; exact qs_Ie
    · rw [qs_In (by omega)]; exact h1 q (by omega)
theorem d_coast (hT : mTpOk T) : ∃ ok P C', P ≤ T.1 ∧ (ok = true → mDk C' ∧ mStd C' = true) ∧
    (∀ g, vTpX T g → ∃ g', f_X1_read g = some ((if ok = true then -1 else Int32.ofNat P), g') ∧ (ok = true → vDX C' g') ∧ qF sCX g g') ∧
    (∀ g, vTpM T g → ∃ g', f_X12_readCoast g = some ((if ok = true then -1 else Int32.ofNat P), g') ∧ (ok = true → vDM C' g') ∧ qF sCM g g') := by
  have h240 := hT.1
  have hU : ∀ k, k < 5 → mItLo (0 + k) ≤ mItU (0 + k) ∧ mItU (0 + k) ≤ mItHi (0 + k) := fun k hk => by have := mIt_b (0 + k) (by omega); exact ⟨this.2.2.2.1, this.2.2.2.2⟩
  have hD : mDk (0, 0, mPt (fun _ => 0) 0 5 (fun k => mItU (0 + k))) := by
    refine ⟨Nat.zero_le _, Nat.zero_le _, fun k hk => ?_, fun k hk => ?_, fun p k hp _ => absurd hp (Nat.not_lt_zero _), fun c k hc _ => absurd hc (Nat.not_lt_zero _)⟩
    · show mPt (fun _ => 0) 0 5 (fun k => mItU (0 + k)) k ≤ 99
      unfold mPt
      split
      · rename_i q
        have := hU (k - 0) (by omega)
        have := mIt_b (0 + (k - 0)) (by omega)
        show mItU (0 + (k - 0)) ≤ 99
        omega
      · exact Nat.zero_le _
    · have e := mPt_i (D := fun _ => 0) (R := fun k => mItU (0 + k)) (o := 0) hk
      rw [Nat.zero_add] at e
      show mItLo _ ≤ mPt (fun _ => 0) 0 5 (fun k => mItU (0 + k)) k ∧ mPt (fun _ => 0) 0 5 (fun k => mItU (0 + k)) k ≤ _
      rw [e]
      have q := hU k hk
      simp only [Nat.zero_add] at q ⊢
      exact q
  obtain ⟨ok, P, C', c1, c2, cX, cM⟩ := d_rest hT T.1 _ false 0 (Nat.zero_le _) (by omega) hD
  refine ⟨ok, P, C', c1, c2, ?_, ?_⟩
  · intro g h
    have F1 : qF sCX g (gsI g 1 2 0) := qF.rfl'.sI (Or.inl ⟨rfl, rfl⟩)
    obtain ⟨g2, ze2, r2, f2⟩ := x_clear (a := 8) (n := 47) (g := gsI g 1 2 0) rfl (by decide)
    have F3 : qF sCX g (gsI (gsI (gsI (gsI g2 7 1 0) 7 2 0) 7 3 0) 6 2 0) := ((((F1.tr (f2.mono fun a k w => Or.inr (Or.inr (Or.inr w)))).sI (Or.inr (Or.inr (Or.inl ⟨rfl, Or.inl rfl⟩)))).sI (Or.inr (Or.inr (Or.inl ⟨rfl, Or.inr (Or.inl rfl)⟩)))).sI (Or.inr (Or.inr (Or.inl ⟨rfl, Or.inr (Or.inr rfl)⟩)))).sI (Or.inr (Or.inl ⟨rfl, rfl⟩))
    obtain ⟨g4, ze4, r4, f4⟩ := x_fill (first := 0) (many := 5) (o := 0) (g := gsI (gsI (gsI (gsI g2 7 1 0) 7 2 0) 7 3 0) 6 2 0) (by omega) (by omega)
    have F4 : qF sCX g g4 := F3.tr (f4.mono fun a k w => Or.inr (Or.inr (Or.inr w.1)))
    have ze5 : f_X1_fillIn 0 5 0 (gsI (gsI (gsI (gsI g2 7 1 0) 7 2 0) 7 3 0) 6 2 0) = some ((), g4) := ze4
    obtain ⟨g5, ze6, k1, f5⟩ := cX zFu 0 g4 (by show _ < 1000000; omega) (by omega) (h.fr F4 (by unfold sCX; omega) (fun k => by unfold sCX; omega)) (by
      rw [f4.2.1 _ _ (by omega), qs_In (by omega), qs_In (by omega), qs_In (by omega), qs_In (by omega), f2.2.1 _ _ (by omega)]; exact qs_Ie) ⟨by
      rw [f4.2.1 _ _ (by omega), qs_In (by omega), qs_In (by omega)]; exact qs_Ie, by
      rw [f4.2.1 _ _ (by omega), qs_In (by omega)]; exact qs_Ie, fun k hk => rowPt (g := gsI (gsI (gsI (gsI g2 7 1 0) 7 2 0) 7 3 0) 6 2 0) (D := fun _ => 0) r4 (fun k q => f4.2.1 _ _ (fun w => q ⟨w.2.1, w.2.2⟩)) (by
      rw [qs_In (by omega), qs_In (by omega), qs_In (by omega), qs_In (by omega)]; exact r2 k hk)⟩ (by
      rw [f4.2.1 _ _ (by omega)]; exact qs_Ie)
    refine ⟨g5, ?_, k1, F4.tr f5⟩
    unfold f_X1_read f_X9_rewind f_X0_clear
    rw [qB_s, ze2, qB_s]
    show zB (f_X1_fillIn 0 5 0 (gsI (gsI (gsI (gsI g2 7 1 0) 7 2 0) 7 3 0) 6 2 0)) _ = _
    rw [ze5, qB_s]
    exact ze6
  · intro g h
    have F1 : qF sCM g (gsI (gsI (gsI (gsI g 526 3 0) 526 4 (-1)) 526 20 0) 526 21 0) := (((qF.rfl'.sI (Or.inl ⟨rfl, by omega⟩)).sI (Or.inl ⟨rfl, by omega⟩)).sI (Or.inl ⟨rfl, by omega⟩)).sI (Or.inl ⟨rfl, by omega⟩)
    have key : ∃ g', f_X12_readCoast_24 zFu 0 0 (gsI (gsI (gsI (gsI g 526 3 0) 526 4 (-1)) 526 20 0) 526 21 0) = f_X12_readCoast_47 0 g' ∧ (∀ k, k < 5 → g'.2.1 537 k = Int32.ofNat (mItU (0 + k))) ∧ qF (fun a k => a = 537) (gsI (gsI (gsI (gsI g 526 3 0) 526 4 (-1)) 526 20 0) 526 21 0) g' := by
      generalize gsI (gsI (gsI (gsI g 526 3 0) 526 4 (-1)) 526 20 0) 526 21 0 = g0
      refine q_loop (F := fun m k g => f_X12_readCoast_24 m 0 (Int32.ofNat k) g) (N := 5) (Inv := fun k g1 => (∀ q, q < k → g1.2.1 537 q = Int32.ofNat (mItU (0 + q))) ∧ qF (fun a k => a = 537) g0 g1) (R := fun w => ∃ g', w = f_X12_readCoast_47 0 g' ∧ (∀ k, k < 5 → g'.2.1 537 k = Int32.ofNat (mItU (0 + k))) ∧ qF (fun a k => a = 537) g0 g') (by omega) ?_ ?_ (s := 0) (by omega) ⟨fun q hq => by omega, qF.rfl'⟩
      · intro m g1 ⟨h1, f1⟩
        refine ⟨g1, ?_, h1, f1⟩
        show fb_X12_readCoast_24 _ _ _ g1 = _
        unfold fb_X12_readCoast_24
        rw [if_pos (by decide)]
      · intro m k g1 hkm ⟨h1, f1⟩ ih
        show ∃ g', fb_X12_readCoast_24 _ _ _ g1 = _ ∧ _
        unfold fb_X12_readCoast_24
        rw [if_neg (show ¬ (5 : Int32) ≤ Int32.ofNat k by rw [show (5 : Int32) = Int32.ofNat 5 from rfl, qi_le (by omega) (by omega)]; omega), show f_X12_usual 115 (Int32.ofNat k) g1 = _ from m_usual (cl := 115) (Or.inl ⟨rfl, rfl, rfl⟩) hkm, qB_s, if_pos (qi_zib (by omega) (by omega)), qi_ix (by omega), show Int32.ofNat k + 1 = Int32.ofNat (k + 1) from qi_add k 1]
        refine ih _ ⟨fun q hq => ?_, f1.sI rfl⟩
        by_cases e : q = k
        · subst e; exact qs_Ie
        · rw [qs_In (by omega)]; exact h1 q (by omega)
    obtain ⟨g2, ze2, r2, f2⟩ := key
    have F2 : qF sCM g g2 := F1.tr (f2.mono fun a k w => Or.inr (Or.inl w))
    obtain ⟨g3, ze3, k1, f3⟩ := cM zFu g2 (by show _ < 1000000; omega) (h.fr F2 (by unfold sCM; omega) (fun k => by unfold sCM; omega)) (by
      rw [f2.2.1 _ _ (by omega), qs_In (by omega), qs_In (by omega), qs_In (by omega)]; exact qs_Ie) (by
      rw [f2.2.1 _ _ (by omega), qs_In (by omega), qs_In (by omega)]; exact qs_Ie) ⟨by
      rw [f2.2.1 _ _ (by omega), qs_In (by omega)]; exact qs_Ie, by
      rw [f2.2.1 _ _ (by omega)]; exact qs_Ie, fun k hk => by
      have e := mPt_i (D := fun _ => 0) (R := fun k => mItU (0 + k)) (o := 0) hk
      rw [Nat.zero_add] at e
      show _ = Int32.ofNat (mPt (fun _ => 0) 0 5 (fun k => mItU (0 + k)) k)
      rw [e]
      have q := r2 k hk
      rw [Nat.zero_add] at q
      exact q, fun p k hp _ => absurd hp (Nat.not_lt_zero _), fun c k hc _ => absurd hc (Nat.not_lt_zero _)⟩
    refine ⟨g3, ?_, k1, F2.tr f3⟩
    unfold f_X12_readCoast
    rw [ze2]
    exact ze3
end AL
