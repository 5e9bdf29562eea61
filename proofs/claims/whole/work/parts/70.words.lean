/-! PURE: the token that both stand at; words. My own text. -/
/-- what a token is -/
def xTo (B : Nat → Int) (N s e : Nat) (t : Int) : Prop := s ≤ e ∧ e ≤ N ∧ ((t = 0 ∧ s = N) ∨ (t ≠ 0 ∧ s < e)) ∧ (t = 1 → ∀ i : Nat, s ≤ i → i < e → xLt (B i) = true) ∧ (t = 2 → ∀ i : Nat, s ≤ i → i < e → xDg (B i) = true)
def xBy (B : Nat → Int) (N : Nat) : Prop := N ≤ 400 ∧ ∀ j : Nat, j < N → 0 ≤ B j ∧ B j ≤ 255
def xTC (B : Nat → Int) (N s e : Nat) (t : Int) (v : zHp) : Prop := v 1 2 = (N : Int) ∧ v 1 3 = t ∧ v 1 4 = (s : Int) ∧ v 1 5 = (e : Int) ∧ ∀ j : Nat, j < N → v 2 (j : Int) = B j
def xTM (B : Nat → Int) (N s e : Nat) (t : Int) (v : zHp) : Prop := v 137 3 = (N : Int) ∧ v 137 6 = t ∧ v 137 4 = (s : Int) ∧ v 137 5 = (e : Int) ∧ (t = 2 → v 137 7 = xVal B s e) ∧ ∀ j : Nat, j < N → zand (v 138 (j : Int)) 255 = B j
/-- what reading leaves as it is -/
def xFC (v v' : zHp) : Prop := (∀ j : Int, j ≠ 3 → j ≠ 4 → j ≠ 5 → v' 1 j = v 1 j) ∧ ∀ a, a ≠ 1 → v' a = v a
def xFM (v v' : zHp) : Prop := (∀ j : Int, j ≠ 4 → j ≠ 5 → j ≠ 6 → j ≠ 7 → j ≠ 9 → v' 137 j = v 137 j) ∧ ∀ a, a ≠ 137 → v' a = v a
theorem xTo_at {B : Nat → Int} {N e : Nat} (he : e ≤ N) : e ≤ xSt B N e ∧ xTo B N (xSt B N e) (xEn B N (xSt B N e)) (xSr B N (xSt B N e)) := by
  have hs := xRun_b (P := xWs) (B := B) (N - e) e
  have eS : xRun xWs B (N - e) e = xSt B N e := rfl
  rw [eS] at hs
  refine ⟨hs.1, ?_⟩
  obtain ⟨h1, h2, _, _⟩ := hs
  generalize xSt B N e = s at h1 h2 ⊢
  unfold xTo xEn xSr
  by_cases c : s < N
  · rw [if_pos c, if_pos c]
    obtain ⟨r1, r2, r3, r4⟩ := xRun_b (P := xLt) (B := B) (N - (s + 1)) (s + 1)
    obtain ⟨q1, q2, q3, q4⟩ := xRun_b (P := xDg) (B := B) (N - (s + 1)) (s + 1)
    by_cases c2 : xLt (B s) = true
    · have c1 : ¬ B s = 59 := fun h => by have := xLt_iff.mp c2; omega
      rw [if_neg c1, if_pos c2, if_pos c2]
      refine ⟨by omega, by omega, Or.inr ⟨by decide, by omega⟩, fun _ i a b => ?_, fun h => absurd h (by decide)⟩
      by_cases e : i = s
      · rw [e]; exact c2
      · exact r3 i (by omega) b
    · rw [if_neg c2, if_neg c2]
      by_cases c3 : xDg (B s) = true
      · have c1 : ¬ B s = 59 := fun h => by have := xDg_iff.mp c3; omega
        rw [if_neg c1, if_pos c3, if_pos c3]
        refine ⟨by omega, by omega, Or.inr ⟨by decide, by omega⟩, fun h => absurd h (by decide), fun _ i a b => ?_⟩
        by_cases e : i = s
        · rw [e]; exact c3
        · exact q3 i (by omega) b
      · rw [if_neg c3, if_neg c3]
        by_cases c1 : B s = 59
        · rw [if_pos c1]
          exact ⟨by omega, by omega, Or.inr ⟨by decide, by omega⟩, fun h => absurd h (by decide), fun h => absurd h (by decide)⟩
        · rw [if_neg c1]
          exact ⟨by omega, by omega, Or.inr ⟨by decide, by omega⟩, fun h => absurd h (by decide), fun h => absurd h (by decide)⟩
  · rw [if_neg c, if_neg c]
    exact ⟨by omega, Nat.le_refl _, Or.inl ⟨rfl, by omega⟩, fun h => absurd h (by decide), fun h => absurd h (by decide)⟩
/-- both go on by a token -/
theorem x_adv {B : Nat → Int} {N s e : Nat} {t : Int} {vC vM : zHp} (hB : xBy B N) (hC : xTC B N s e t vC) (hM : xTM B N s e t vM) (hT : xTo B N s e t) : ∃ vC' vM' s' e' t', fX9_advance vC = some (vC', 0) ∧ fX12_go vM = some (vM', 0) ∧ xTC B N s' e' t' vC' ∧ xTM B N s' e' t' vM' ∧ xTo B N s' e' t' ∧ e ≤ s' ∧ xFC vC vC' ∧ (∀ j : Int, j ≠ 4 → j ≠ 5 → j ≠ 6 → j ≠ 7 → vM' 137 j = vM 137 j) ∧ ∀ a, a ≠ 137 → vM' a = vM a := by
  obtain ⟨c1, c2, c3, c4, c5⟩ := hC
  obtain ⟨m1, m2, m3, m4, m5, m6⟩ := hM
  obtain ⟨vC', g1, g2, g3, g4, g5, g6⟩ := c_adv hB.1 c1 c4 hT.2.1 c5
  obtain ⟨vM', q1, q2, q3, q4, q5, q6, q7⟩ := m_go hB.1 m1 m4 hT.2.1 m6 (fun j hj => (hB.2 j hj).1)
  obtain ⟨t1, t2⟩ := xTo_at (B := B) hT.2.1
  refine ⟨vC', vM', xSt B N e, xEn B N (xSt B N e), xSr B N (xSt B N e), g1, q1, ⟨by rw [g5 2 (by decide) (by decide) (by decide)]; exact c1, g2, g3, g4, by rw [g6 2 (by decide)]; exact c5⟩, ⟨by rw [q6 3 (by decide) (by decide) (by decide) (by decide)]; exact m1, q2, q3, q4, q5, by rw [q7 138 (by decide)]; exact m6⟩, t2, t1, ⟨g5, g6⟩, q6, q7⟩
/-! words -/
theorem xgetD : ∀ (l : List Int) (k : Nat), l.length ≤ k → l.getD k 0 = 0
  | [], _, _ => rfl
  | _ :: _, 0, h => absurd h (Nat.not_succ_le_zero _)
  | _ :: l, k + 1, h => xgetD l k (Nat.le_of_succ_le_succ h)
def xWd (B : Nat → Int) (s e : Nat) (w : List Int) : Prop := e - s = w.length ∧ ∀ k : Nat, k < w.length → B (s + k) = w.getD k 0
theorem ctell_L {B : Nat → Int} {N s e : Nat} {t : Int} {v : zHp} (hB : xBy B N) (hC : xTC B N s e t v) (hT : xTo B N s e t) {i : Nat} {w : List Int} (hl : zsl i = (w.length : Int)) (hc : ∀ k : Nat, k < w.length → zsc i (k : Int) = w.getD k 0) (he : e - s = w.length) : ∀ (d fu k : Nat), k + d = w.length → d < fu → (∀ j : Nat, j < k → B (s + j) = w.getD j 0) → (fX9_tells_L28 fu v i (k : Int) = some (.inr (v, 0)) ∧ ∀ j : Nat, j < w.length → B (s + j) = w.getD j 0) ∨ (fX9_tells_L28 fu v i (k : Int) = some (.inl (v, 0)) ∧ ∃ j : Nat, j < w.length ∧ B (s + j) ≠ w.getD j 0)
  | 0, fu, k, h1, h2, h3 => by
    obtain ⟨f, rfl⟩ : ∃ f, fu = f + 1 := ⟨fu - 1, by omega⟩
    refine Or.inl ⟨?_, fun j hj => h3 j (by omega)⟩
    rw [fX9_tells_L28.eq_2, hl, if_pos (by omega)]
  | d + 1, fu, k, h1, h2, h3 => by
    obtain ⟨f, rfl⟩ : ∃ f, fu = f + 1 := ⟨fu - 1, by omega⟩
    have hN := hB.1
    have ht1 := hT.1
    have ht2 := hT.2.1
    rw [fX9_tells_L28.eq_2, hl, if_neg (by omega), hC.2.2.1, zck_pos (by omega), zck_pos (by omega), show (s : Int) + (k : Int) = ((s + k : Nat) : Int) by omega, hC.2.2.2.2 (s + k) (by omega), hc k (by omega)]
    by_cases c : B (s + k) = w.getD k 0
    · rw [if_pos c, zn_pos (by omega), show (k : Int) + 1 = ((k + 1 : Nat) : Int) by omega]
      exact ctell_L hB hC hT hl hc he d f (k + 1) (by omega) (by omega) fun j hj => by
        by_cases e : j = k
        · rw [e]; exact c
        · exact h3 j (by omega)
    · rw [if_neg c]
      exact Or.inr ⟨rfl, k, by omega, c⟩
theorem c_tells {B : Nat → Int} {N s e : Nat} {t : Int} {v : zHp} (hB : xBy B N) (hC : xTC B N s e t v) (hT : xTo B N s e t) {i : Nat} {w : List Int} (hl : zsl i = (w.length : Int)) (hc : ∀ k : Nat, k < w.length → zsc i (k : Int) = w.getD k 0) : ∃ r : Int, fX9_tells v i = some (v, r) ∧ (r = 0 ∨ r = 1) ∧ (r = 1 ↔ t = 1 ∧ xWd B s e w) := by
  have hN := hB.1
  have ht1 := hT.1
  have ht2 := hT.2.1
  unfold fX9_tells
  rw [hC.2.1, hC.2.2.1, hC.2.2.2.1, hl]
  by_cases c : t = 1
  · rw [if_neg (fun h => h c), zn_pos (by omega)]
    by_cases d : e - s = w.length
    · rw [if_pos (by omega)]
      rcases ctell_L hB hC hT hl hc d w.length zFU 0 (by omega) (zFU_lt (by omega)) (fun j hj => absurd hj (Nat.not_lt_zero _)) with ⟨g1, g2⟩ | ⟨g1, j, g2, g3⟩
      · rw [show ((0 : Nat) : Int) = 0 from rfl] at g1
        rw [g1, zlf_e]
        exact ⟨1, rfl, Or.inr rfl, fun _ => ⟨c, d, g2⟩, fun _ => rfl⟩
      · rw [show ((0 : Nat) : Int) = 0 from rfl] at g1
        rw [g1, zlf_i]
        exact ⟨0, rfl, Or.inl rfl, fun h => absurd h (by decide), fun h => absurd (h.2.2 j g2) g3⟩
    · rw [if_neg (by omega)]
      exact ⟨0, rfl, Or.inl rfl, fun h => absurd h (by decide), fun h => absurd h.2.1 d⟩
  · rw [if_pos c]
    exact ⟨0, rfl, Or.inl rfl, fun h => absurd h (by decide), fun h => absurd h.1 c⟩
theorem misw_L {B : Nat → Int} {N s e : Nat} {t : Int} {v : zHp} (hB : xBy B N) (hM : xTM B N s e t v) (hT : xTo B N s e t) {jr : Int → Int} : ∀ (d fu k : Nat), k + d = 8 → d < fu → ∃ r : Int, fX12_isWord_L77 jr fu v 1 (k : Int) = some (v, r) ∧ (r = 0 ∨ r = 1) ∧ (r = 1 ↔ ∀ j : Nat, k ≤ j → j < 8 → (if e - s ≤ j then 0 else B (s + j)) = jr (j : Int))
  | 0, fu, k, h1, h2 => by
    obtain ⟨f, rfl⟩ : ∃ f, fu = f + 1 := ⟨fu - 1, by omega⟩
    refine ⟨1, ?_, Or.inr rfl, fun _ j a b => absurd b (by omega), fun _ => rfl⟩
    rw [fX12_isWord_L77.eq_2, if_pos (by omega)]
  | d + 1, fu, k, h1, h2 => by
    obtain ⟨f, rfl⟩ : ∃ f, fu = f + 1 := ⟨fu - 1, by omega⟩
    have hN := hB.1
    have ht1 := hT.1
    have ht2 := hT.2.1
    have off : fX12_isWord_L77 jr f v 0 ((k + 1 : Nat) : Int) = some (v, 0) := by
      obtain ⟨f', rfl⟩ : ∃ f', f = f' + 1 := ⟨f - 1, by omega⟩
      rw [fX12_isWord_L77.eq_2]
      by_cases g : 8 ≤ ((k + 1 : Nat) : Int)
      · rw [if_pos g]
      · rw [if_neg g, if_pos rfl]
    obtain ⟨r, g1, g2, g3⟩ := misw_L hB hM hT (jr := jr) d f (k + 1) (by omega) (by omega)
    have both : ∀ x : Int, x = (if e - s ≤ k then 0 else B (s + k)) → ∃ r : Int, fX12_isWord_J118 jr (fX12_isWord_L77 jr f) v (k : Int) x = some (v, r) ∧ (r = 0 ∨ r = 1) ∧ (r = 1 ↔ ∀ j : Nat, k ≤ j → j < 8 → (if e - s ≤ j then 0 else B (s + j)) = jr (j : Int)) := fun x hx => by
      unfold fX12_isWord_J118
      rw [zck_pos (by omega), zn_pos (by omega), zn_pos (by omega), show (k : Int) + 1 = ((k + 1 : Nat) : Int) by omega]
      by_cases c : x = jr (k : Int)
      · rw [if_neg (fun h => h c)]
        refine ⟨r, g1, g2, fun h j a b => ?_, fun h => g3.mpr fun j a b => h j (by omega) b⟩
        by_cases e' : j = k
        · rw [e', ← hx]; exact c
        · exact g3.mp h j (by omega) b
      · rw [if_pos c, off]
        refine ⟨0, rfl, Or.inl rfl, fun h => absurd h (by decide), fun h => absurd (h k (Nat.le_refl _) (by omega)) ?_⟩
        rw [← hx]
        exact c
    rw [fX12_isWord_L77.eq_2, if_neg (by omega), if_neg n10, hM.2.2.1, hM.2.2.2.1, zn_pos (by omega)]
    by_cases c : e - s ≤ k
    · rw [if_pos (by omega)]
      exact both 0 (by rw [if_pos c])
    · rw [if_neg (by omega), zn_pos (by omega), show (s : Int) + (k : Int) = ((s + k : Nat) : Int) by omega, m_byteAt hN hM.1 hM.2.2.2.2.2 (s + k), zcl_e, if_pos (by omega : s + k < N)]
      exact both _ (by rw [if_neg c])
theorem m_isWord {B : Nat → Int} {N s e : Nat} {t : Int} {v : zHp} (hB : xBy B N) (hM : xTM B N s e t v) (hT : xTo B N s e t) {x1 x2 x3 x4 x5 x6 x7 x8 : Int} {w : List Int} (hw : w.length ≤ 7) (hj : ∀ k : Nat, k < 8 → zup (zup (zup (zup (zup (zup (zup (zup zf0 0 x1) 1 x2) 2 x3) 3 x4) 4 x5) 5 x6) 6 x7) 7 x8 (k : Int) = w.getD k 0) (hz : ∀ k : Nat, k < w.length → w.getD k 0 ≠ 0) : ∃ r : Int, fX12_isWord v x1 x2 x3 x4 x5 x6 x7 x8 = some (v, r) ∧ (r = 0 ∨ r = 1) ∧ (r = 1 ↔ t = 1 ∧ xWd B s e w) := by
  have hN := hB.1
  have ht1 := hT.1
  have ht2 := hT.2.1
  unfold fX12_isWord
  generalize zup (zup (zup (zup (zup (zup (zup (zup zf0 0 x1) 1 x2) 2 x3) 3 x4) 4 x5) 5 x6) 6 x7) 7 x8 = jr at hj ⊢
  rw [zck_pos (by decide), zck_pos (by decide), zck_pos (by decide), zck_pos (by decide), zck_pos (by decide), zck_pos (by decide), zck_pos (by decide), zck_pos (by decide), hM.2.1, hM.2.2.1, hM.2.2.2.1]
  have no : fX12_isWord_J71 jr v = some (v, 0) := by
    unfold fX12_isWord_J71 fX12_isWord_J72
    rw [show zFU = 999999 + 1 from rfl, fX12_isWord_L77.eq_2, if_neg (by decide), if_pos rfl, zl_e, zck_pos (by decide)]
  by_cases c : t = 1
  · rw [if_neg (fun h => h c), zn_pos (by omega)]
    have hlet := hT.2.2.2.1 c
    have key : (∀ j : Nat, 0 ≤ j → j < 8 → (if e - s ≤ j then 0 else B (s + j)) = jr (j : Int)) → xWd B s e w := fun h => by
      have el : e - s = w.length := by
        rcases Nat.lt_trichotomy (e - s) w.length with g | g | g
        · have := h (e - s) (Nat.zero_le _) (by omega)
          rw [if_pos (Nat.le_refl _), hj _ (by omega)] at this
          exact absurd this.symm (hz _ g)
        · exact g
        · have := h w.length (Nat.zero_le _) (by omega)
          rw [if_neg (by omega), hj _ (by omega), xgetD w _ (Nat.le_refl _)] at this
          have h2 := xLt_iff.mp (hlet (s + w.length) (by omega) (by omega))
          omega
      refine ⟨el, fun k hk => ?_⟩
      have := h k (Nat.zero_le _) (by omega)
      rw [if_neg (by omega), hj _ (by omega)] at this
      exact this
    by_cases d : 8 < e - s
    · rw [if_pos (by omega), no]
      exact ⟨0, rfl, Or.inl rfl, fun h => absurd h (by decide), fun h => absurd h.2.1 (by omega)⟩
    · rw [if_neg (by omega)]
      obtain ⟨r, g1, g2, g3⟩ := misw_L hB hM hT (jr := jr) 8 zFU 0 rfl (zFU_lt (by decide))
      rw [show ((0 : Nat) : Int) = 0 from rfl] at g1
      unfold fX12_isWord_J72
      rw [g1, zl_e, zck_pos g2]
      refine ⟨r, rfl, g2, fun h => ⟨c, key (g3.mp h)⟩, fun h => g3.mpr fun j _ b => ?_⟩
      rw [hj j b]
      by_cases g : e - s ≤ j
      · rw [if_pos g, xgetD w _ (by rw [← h.2.1]; exact g)]
      · rw [if_neg g]
        exact h.2.2 j (by rw [← h.2.1]; omega)
  · rw [if_pos c, no]
    exact ⟨0, rfl, Or.inl rfl, fun h => absurd h (by decide), fun h => absurd h.1 c⟩
/-- a word of the class is a word of the reference -/
def xWk (i : Nat) (x1 x2 x3 x4 x5 x6 x7 x8 : Int) : Prop := ∃ w : List Int, zsl i = (w.length : Int) ∧ (∀ k : Nat, k < w.length → zsc i (k : Int) = w.getD k 0) ∧ w.length ≤ 7 ∧ (∀ k : Nat, k < 8 → zup (zup (zup (zup (zup (zup (zup (zup zf0 0 x1) 1 x2) 2 x3) 3 x4) 4 x5) 5 x6) 6 x7) 7 x8 (k : Int) = w.getD k 0) ∧ ∀ k : Nat, k < w.length → w.getD k 0 ≠ 0
theorem x_tells {B : Nat → Int} {N s e : Nat} {t : Int} {vC vM : zHp} (hB : xBy B N) (hC : xTC B N s e t vC) (hM : xTM B N s e t vM) (hT : xTo B N s e t) {i : Nat} {x1 x2 x3 x4 x5 x6 x7 x8 : Int} (hw : xWk i x1 x2 x3 x4 x5 x6 x7 x8) : ∃ r : Int, fX9_tells vC i = some (vC, r) ∧ fX12_isWord vM x1 x2 x3 x4 x5 x6 x7 x8 = some (vM, r) ∧ (r = 0 ∨ r = 1) ∧ (r = 1 → t = 1) := by
  obtain ⟨w, h1, h2, h3, h4, h5⟩ := hw
  obtain ⟨r, g1, g2, g3⟩ := c_tells hB hC hT h1 h2
  obtain ⟨r', q1, q2, q3⟩ := m_isWord hB hM hT h3 h4 h5
  have e : r' = r := by
    have : r' = 1 ↔ r = 1 := q3.trans g3.symm
    omega
  exact ⟨r, g1, by rw [q1, e], g2, fun h => (g3.mp h).1⟩
theorem xw_clock : xWk 0 99 108 111 99 107 0 0 0 := ⟨[99, 108, 111, 99, 107], by decide, by decide, by decide, by decide, by decide⟩
theorem xw_forward : xWk 1 102 111 114 119 97 114 100 0 := ⟨[102, 111, 114, 119, 97, 114, 100], by decide, by decide, by decide, by decide, by decide⟩
theorem xw_back : xWk 2 98 97 99 107 0 0 0 0 := ⟨[98, 97, 99, 107], by decide, by decide, by decide, by decide, by decide⟩
theorem xw_holiday : xWk 3 104 111 108 105 100 97 121 0 := ⟨[104, 111, 108, 105, 100, 97, 121], by decide, by decide, by decide, by decide, by decide⟩
theorem xw_round : xWk 4 114 111 117 110 100 0 0 0 := ⟨[114, 111, 117, 110, 100], by decide, by decide, by decide, by decide, by decide⟩
theorem xw_meal : xWk 5 109 101 97 108 0 0 0 0 := ⟨[109, 101, 97, 108], by decide, by decide, by decide, by decide, by decide⟩
theorem xw_longest : xWk 6 108 111 110 103 101 115 116 0 := ⟨[108, 111, 110, 103, 101, 115, 116], by decide, by decide, by decide, by decide, by decide⟩
theorem xw_rate : xWk 7 114 97 116 101 0 0 0 0 := ⟨[114, 97, 116, 101], by decide, by decide, by decide, by decide, by decide⟩
theorem xw_premium : xWk 8 112 114 101 109 105 117 109 0 := ⟨[112, 114, 101, 109, 105, 117, 109], by decide, by decide, by decide, by decide, by decide⟩
theorem xw_day : xWk 9 100 97 121 0 0 0 0 0 := ⟨[100, 97, 121], by decide, by decide, by decide, by decide, by decide⟩
theorem xw_week : xWk 10 119 101 101 107 0 0 0 0 := ⟨[119, 101, 101, 107], by decide, by decide, by decide, by decide, by decide⟩
theorem xw_seventh : xWk 11 115 101 118 101 110 116 104 0 := ⟨[115, 101, 118, 101, 110, 116, 104], by decide, by decide, by decide, by decide, by decide⟩
theorem xw_night : xWk 12 110 105 103 104 116 0 0 0 := ⟨[110, 105, 103, 104, 116], by decide, by decide, by decide, by decide, by decide⟩
theorem xw_counts : xWk 13 99 111 117 110 116 115 0 0 := ⟨[99, 111, 117, 110, 116, 115], by decide, by decide, by decide, by decide, by decide⟩
