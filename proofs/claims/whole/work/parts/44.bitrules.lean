/-! PURE: premiums by bits: the most, the dearest, the week's; both sides. My own text. -/
abbrev yH (R : Int → Int) (p : Nat) : Int := R (11 + 5 * (p : Int) + 1)
abbrev yA (R : Int → Int) (p : Nat) : Int := R (11 + 5 * (p : Int) + 3)
/-- counts, hundredths under a premium or plain -/
def yCn (R : Int → Int) (x : Int) : Int := if x = -1 then 1 else R (11 + 5 * x + 2)
def yHn (R : Int → Int) (x : Int) : Int := if x = -1 then 0 else R (11 + 5 * x + 1)
def zWb (R : Int → Int) (c : Int) (p : Nat) : Bool := decide (R (11 + 5 * (p : Int) + 0) = 1) && decide (R (11 + 5 * (p : Int) + 3) ≤ c)
def yMost (P : Nat → Bool) (H : Nat → Int) (none : Int) : Nat → Int
  | 0 => none
  | n + 1 => if P n then max (yMost P H none n) (H n) else yMost P H none n
def yDr (R : Int → Int) (P : Nat → Bool) : Nat → Int
  | 0 => -1
  | n + 1 => if P n && decide (yHn R (yDr R P n) < R (11 + 5 * (n : Int) + 1)) then (n : Int) else yDr R P n
theorem yMost_cong {P Q : Nat → Bool} {H : Nat → Int} {o : Int} : ∀ n : Nat, (∀ p, p < n → P p = Q p) → yMost P H o n = yMost Q H o n
  | 0, _ => rfl
  | n + 1, h => by
    unfold yMost
    rw [h n (Nat.lt_succ_self n), yMost_cong n fun p hp => h p (Nat.lt_succ_of_lt hp)]
theorem yMost_ge {P : Nat → Bool} {H : Nat → Int} {o : Int} : ∀ n : Nat, o ≤ yMost P H o n ∧ ∀ p, p < n → P p = true → H p ≤ yMost P H o n
  | 0 => ⟨Int.le_refl _, fun p h => absurd h (Nat.not_lt_zero _)⟩
  | n + 1 => by
    obtain ⟨h1, h2⟩ := yMost_ge (P := P) (H := H) (o := o) n
    unfold yMost
    by_cases c : P n = true
    · rw [if_pos c]
      refine ⟨by omega, fun p hp hP => ?_⟩
      by_cases e : p = n
      · rw [e]
        omega
      · have := h2 p (by omega) hP
        omega
    · rw [if_neg c]
      refine ⟨h1, fun p hp hP => ?_⟩
      by_cases e : p = n
      · rw [e] at hP
        exact absurd hP c
      · exact h2 p (by omega) hP
theorem yMost_is {P : Nat → Bool} {H : Nat → Int} {o : Int} : ∀ n : Nat, yMost P H o n = o ∨ ∃ p, p < n ∧ P p = true ∧ yMost P H o n = H p
  | 0 => Or.inl rfl
  | n + 1 => by
    have h := yMost_is (P := P) (H := H) (o := o) n
    unfold yMost
    by_cases c : P n = true
    · rw [if_pos c]
      by_cases d : H n ≤ yMost P H o n
      · rw [show max (yMost P H o n) (H n) = yMost P H o n by omega]
        rcases h with h | ⟨p, h1, h2, h3⟩
        · exact Or.inl h
        · exact Or.inr ⟨p, by omega, h2, h3⟩
      · rw [show max (yMost P H o n) (H n) = H n by omega]
        exact Or.inr ⟨n, by omega, c, rfl⟩
    · rw [if_neg c]
      rcases h with h | ⟨p, h1, h2, h3⟩
      · exact Or.inl h
      · exact Or.inr ⟨p, by omega, h2, h3⟩
theorem yDr_cong {R : Int → Int} {P Q : Nat → Bool} : ∀ n : Nat, (∀ p, p < n → P p = Q p) → yDr R P n = yDr R Q n
  | 0, _ => rfl
  | n + 1, h => by
    unfold yDr
    rw [h n (Nat.lt_succ_self n), yDr_cong n fun p hp => h p (Nat.lt_succ_of_lt hp)]
theorem yDr_b {R : Int → Int} {P : Nat → Bool} : ∀ n : Nat, yDr R P n = -1 ∨ (0 ≤ yDr R P n ∧ yDr R P n < (n : Int))
  | 0 => Or.inl rfl
  | n + 1 => by
    have h := yDr_b (R := R) (P := P) n
    unfold yDr
    split
    · exact Or.inr ⟨by omega, by omega⟩
    · omega
/-- the hundredths of a premium there is -/
theorem yH_b {R : Int → Int} (hR : zWR R) {p : Nat} (hp : p < (R 10).toNat) : 1 ≤ R (11 + 5 * (p : Int) + 1) ∧ R (11 + 5 * (p : Int) + 1) ≤ 300 ∧ (R (11 + 5 * (p : Int) + 2) = 0 ∨ R (11 + 5 * (p : Int) + 2) = 1) ∧ -1 ≤ R (11 + 5 * (p : Int) + 3) ∧ R (11 + 5 * (p : Int) + 3) ≤ 672 ∧ 0 ≤ R (11 + 5 * (p : Int) + 0) ∧ R (11 + 5 * (p : Int) + 0) ≤ 4 ∧ p < 8 := by
  have h8 := hR.2.2.1
  obtain ⟨h1, h2, h3, h4, h5, h6, h7, _⟩ := hR.2.2.2 p (by omega)
  exact ⟨h3, h4, h5, h6, h7, h1, h2, by omega⟩
/-! the class's -/
theorem c_countsUnder {ru : Nat} {v : zHp} {R : Int → Int} (hR : zWR R) (h : zRC ru v R) {x : Int} (hx : x = -1 ∨ (0 ≤ x ∧ x < R 10)) : fX7_countsUnder v ru x = some (v, yCn R x) := by
  have hb := hR.2.2.1
  unfold fX7_countsUnder yCn
  by_cases c : x = -1
  · rw [if_pos c, if_pos c]
  · obtain ⟨p, rfl⟩ : ∃ p : Nat, x = (p : Int) := ⟨x.toNat, by omega⟩
    have hp : (p : Int) < R 10 := by omega
    have e := (c_pr h hp).2.2.1
    have hk := (hR.2.2.2 p hp).2.2.2.2.1
    rw [if_neg c, if_neg c, zck_pos (by omega), Int.toNat_natCast, zb_e, e]
    rcases hk with hk | hk
    · rw [if_pos hk, hk]
    · rw [if_neg (by omega), hk]
theorem c_hundredthsUnder {ru : Nat} {v : zHp} {R : Int → Int} (hR : zWR R) (h : zRC ru v R) {x : Int} (hx : x = -1 ∨ (0 ≤ x ∧ x < R 10)) : fX7_hundredthsUnder v ru x = some (v, yHn R x) := by
  have hb := hR.2.2.1
  unfold fX7_hundredthsUnder yHn
  by_cases c : x = -1
  · rw [if_neg (by omega), if_pos c]
  · obtain ⟨p, rfl⟩ : ∃ p : Nat, x = (p : Int) := ⟨x.toNat, by omega⟩
    have hp : (p : Int) < R 10 := by omega
    have e := (c_pr h hp).2.1
    rw [if_pos c, if_neg c, zck_pos (by omega), Int.toNat_natCast, zb_e, e]
theorem week_L {ru : Nat} {v : zHp} {R : Int → Int} (hR : zWR R) (h : zRC ru v R) {c : Int} : ∀ (m fu p : Nat), p + m = (R 10).toNat → m < fu → fX7_weekBits_L4 fu v ru c ((zmk (zWb R c) p : Nat) : Int) (p : Int) = some (v, ((zmk (zWb R c) (R 10).toNat : Nat) : Int))
  | 0, fu, p, h1, h2 => by
    obtain ⟨k, rfl⟩ : ∃ k, fu = k + 1 := ⟨fu - 1, by omega⟩
    have hb := hR.2.2.1
    have hn : v ru 2 = R 10 := h.2.2.1.1
    rw [fX7_weekBits_L4.eq_2, hn, if_pos (by omega), show p = (R 10).toNat by omega]
  | m + 1, fu, p, h1, h2 => by
    obtain ⟨k, rfl⟩ : ∃ k, fu = k + 1 := ⟨fu - 1, by omega⟩
    have hb := hR.2.2.1
    have hn : v ru 2 = R 10 := h.2.2.1.1
    have hp : (p : Int) < R 10 := by omega
    obtain ⟨e0, e1, e2, e3, e4⟩ := c_pr h hp
    have ih := week_L (c := c) hR h m k (p + 1) (by omega) (by omega)
    rw [fX7_weekBits_L4.eq_2, hn, if_neg (by omega), zck_pos (by omega), Int.toNat_natCast, zb_e, e0, zn_pos (by omega), zck_pos (by omega), zb_e, e3, zn_pos (by omega), show (p : Int) + 1 = ((p + 1 : Nat) : Int) by omega]
    by_cases a : R (11 + 5 * (p : Int) + 0) = 1
    · rw [if_neg (by omega)]
      by_cases b : R (11 + 5 * (p : Int) + 3) ≤ c
      · have hw : zWb R c p = true := by unfold zWb; rw [decide_eq_true a, decide_eq_true b]; rfl
        rw [if_neg (by omega), zmk_step (by omega) hw]
        exact ih
      · have hw : zWb R c p = false := by unfold zWb; rw [decide_eq_false b, Bool.and_false]
        rw [if_pos (by omega), ← ih, zmk_skip hw]
    · have hw : zWb R c p = false := by unfold zWb; rw [decide_eq_false a, Bool.false_and]
      rw [if_pos a, ← ih, zmk_skip hw]
theorem c_weekBits {ru : Nat} {v : zHp} {R : Int → Int} (hR : zWR R) (h : zRC ru v R) (c : Int) : fX7_weekBits v ru c = some (v, ((zmk (zWb R c) (R 10).toNat : Nat) : Int)) := by
  have := week_L (c := c) hR h (R 10).toNat zFU 0 (by omega) (zFU_lt (by have := hR.2.2.1; omega))
  unfold fX7_weekBits
  rw [show ((zmk (zWb R c) 0 : Nat) : Int) = 0 from rfl, show ((0 : Nat) : Int) = 0 from rfl] at this
  rw [this]
  rfl
theorem most_L {ru : Nat} {v : zHp} {R : Int → Int} (hR : zWR R) (h : zRC ru v R) {b : Nat} (hb : b < 2 ^ 31) {x2 o : Int} : ∀ (m fu p : Nat), p + m = (R 10).toNat → m < fu → fX7_mostOf_L6 fu v ru (b : Int) x2 (yMost (fun p => b.testBit p && decide (R (11 + 5 * (p : Int) + 2) = x2)) (yH R) o p) (p : Int) = some (v, yMost (fun p => b.testBit p && decide (R (11 + 5 * (p : Int) + 2) = x2)) (yH R) o (R 10).toNat)
  | 0, fu, p, h1, h2 => by
    obtain ⟨k, rfl⟩ : ∃ k, fu = k + 1 := ⟨fu - 1, by omega⟩
    have hb := hR.2.2.1
    have hn : v ru 2 = R 10 := h.2.2.1.1
    rw [fX7_mostOf_L6.eq_2, hn, if_pos (by omega), show p = (R 10).toNat by omega]
  | m + 1, fu, p, h1, h2 => by
    obtain ⟨k, rfl⟩ : ∃ k, fu = k + 1 := ⟨fu - 1, by omega⟩
    have hb8 := hR.2.2.1
    have hn : v ru 2 = R 10 := h.2.2.1.1
    have hp : (p : Int) < R 10 := by omega
    obtain ⟨e0, e1, e2, e3, e4⟩ := c_pr h hp
    have ih := most_L (x2 := x2) (o := o) hR h hb m k (p + 1) (by omega) (by omega)
    have e : yMost (fun p => b.testBit p && decide (R (11 + 5 * (p : Int) + 2) = x2)) (yH R) o (p + 1) = if (b.testBit p && decide (R (11 + 5 * (p : Int) + 2) = x2)) = true then max (yMost (fun p => b.testBit p && decide (R (11 + 5 * (p : Int) + 2) = x2)) (yH R) o p) (R (11 + 5 * (p : Int) + 1)) else yMost (fun p => b.testBit p && decide (R (11 + 5 * (p : Int) + 2) = x2)) (yH R) o p := rfl
    rw [e] at ih
    rw [fX7_mostOf_L6.eq_2, hn, if_neg (by omega), zbit_n (by omega) hb]
    simp only [zck_pos (show 0 ≤ (p : Int) ∧ (p : Int) < 8 by omega), Int.toNat_natCast, zb_e, e1, e2, zn_pos (show -2147483648 ≤ (p : Int) + 1 ∧ (p : Int) + 1 ≤ 2147483647 by omega)]
    rw [show (p : Int) + 1 = ((p + 1 : Nat) : Int) by omega, ← ih]
    cases a : b.testBit p with
    | false => rw [if_pos (by decide), Bool.false_and, if_neg (by decide : ¬ (false = true))]
    | true =>
      rw [if_neg (by decide)]
      by_cases c : R (11 + 5 * (p : Int) + 2) = x2
      · rw [if_neg (by omega), decide_eq_true c, Bool.and_self, if_pos rfl]
      · rw [if_pos c, decide_eq_false c, Bool.and_false, if_neg (by decide : ¬ (false = true))]
theorem c_mostOf {ru : Nat} {v : zHp} {R : Int → Int} (hR : zWR R) (h : zRC ru v R) {b : Nat} (hb : b < 2 ^ 31) (x2 o : Int) : fX7_mostOf v ru (b : Int) x2 o = some (v, yMost (fun p => b.testBit p && decide (R (11 + 5 * (p : Int) + 2) = x2)) (yH R) o (R 10).toNat) := by
  have := most_L (x2 := x2) (o := o) hR h hb (R 10).toNat zFU 0 (by omega) (zFU_lt (by have := hR.2.2.1; omega))
  unfold fX7_mostOf
  rw [show yMost (fun p => b.testBit p && decide (R (11 + 5 * (p : Int) + 2) = x2)) (yH R) o 0 = o from rfl, show ((0 : Nat) : Int) = 0 from rfl] at this
  rw [this]
  rfl
/-- the largest number of a week premium that matters -/
def yTop (R : Int → Int) (al : Nat) (n : Int) : Int := yMost (fun p => al.testBit p && (decide (R (11 + 5 * (p : Int) + 0) = 1) && decide (R (11 + 5 * (p : Int) + 3) < n))) (yA R) 0 (R 10).toNat
theorem top_L {ru : Nat} {v : zHp} {R : Int → Int} (hR : zWR R) (h : zRC ru v R) {b : Nat} (hb : b < 2 ^ 31) {n : Int} : ∀ (m fu p : Nat), p + m = (R 10).toNat → m < fu → fX7_largestWeekBelow_L5 fu v ru n (b : Int) (yMost (fun p => b.testBit p && (decide (R (11 + 5 * (p : Int) + 0) = 1) && decide (R (11 + 5 * (p : Int) + 3) < n))) (yA R) 0 p) (p : Int) = some (v, yTop R b n)
  | 0, fu, p, h1, h2 => by
    obtain ⟨k, rfl⟩ : ∃ k, fu = k + 1 := ⟨fu - 1, by omega⟩
    have hb := hR.2.2.1
    have hn : v ru 2 = R 10 := h.2.2.1.1
    rw [fX7_largestWeekBelow_L5.eq_2, hn, if_pos (by omega), show p = (R 10).toNat by omega]
    rfl
  | m + 1, fu, p, h1, h2 => by
    obtain ⟨k, rfl⟩ : ∃ k, fu = k + 1 := ⟨fu - 1, by omega⟩
    have hb8 := hR.2.2.1
    have hn : v ru 2 = R 10 := h.2.2.1.1
    have hp : (p : Int) < R 10 := by omega
    obtain ⟨e0, e1, e2, e3, e4⟩ := c_pr h hp
    have ih := top_L (n := n) hR h hb m k (p + 1) (by omega) (by omega)
    have e : yMost (fun p => b.testBit p && (decide (R (11 + 5 * (p : Int) + 0) = 1) && decide (R (11 + 5 * (p : Int) + 3) < n))) (yA R) 0 (p + 1) = if (b.testBit p && (decide (R (11 + 5 * (p : Int) + 0) = 1) && decide (R (11 + 5 * (p : Int) + 3) < n))) = true then max (yMost (fun p => b.testBit p && (decide (R (11 + 5 * (p : Int) + 0) = 1) && decide (R (11 + 5 * (p : Int) + 3) < n))) (yA R) 0 p) (R (11 + 5 * (p : Int) + 3)) else yMost (fun p => b.testBit p && (decide (R (11 + 5 * (p : Int) + 0) = 1) && decide (R (11 + 5 * (p : Int) + 3) < n))) (yA R) 0 p := rfl
    rw [e] at ih
    rw [fX7_largestWeekBelow_L5.eq_2, hn, if_neg (by omega), zbit_n (by omega) hb]
    simp only [zck_pos (show 0 ≤ (p : Int) ∧ (p : Int) < 8 by omega), Int.toNat_natCast, zb_e, e0, e3, zn_pos (show -2147483648 ≤ (p : Int) + 1 ∧ (p : Int) + 1 ≤ 2147483647 by omega)]
    rw [show (p : Int) + 1 = ((p + 1 : Nat) : Int) by omega, ← ih]
    cases a : b.testBit p with
    | false => rw [if_pos (by decide), Bool.false_and, if_neg (by decide : ¬ (false = true))]
    | true =>
      rw [if_neg (by decide)]
      by_cases c : R (11 + 5 * (p : Int) + 0) = 1
      · rw [if_neg (by omega), decide_eq_true c]
        by_cases d : R (11 + 5 * (p : Int) + 3) < n
        · rw [if_neg (by omega), decide_eq_true d, Bool.and_self, Bool.and_self, if_pos rfl]
        · rw [if_pos (by omega), decide_eq_false d, Bool.and_false, Bool.and_false, if_neg (by decide : ¬ (false = true))]
      · rw [if_pos c, decide_eq_false c, Bool.false_and, Bool.and_false, if_neg (by decide : ¬ (false = true))]
theorem c_largest {ru : Nat} {v : zHp} {R : Int → Int} (hR : zWR R) (h : zRC ru v R) {b : Nat} (hb : b < 2 ^ 31) (n : Int) : fX7_largestWeekBelow v ru n (b : Int) = some (v, yTop R b n) := by
  have := top_L (n := n) hR h hb (R 10).toNat zFU 0 (by omega) (zFU_lt (by have := hR.2.2.1; omega))
  unfold fX7_largestWeekBelow
  rw [show yMost (fun p => b.testBit p && (decide (R (11 + 5 * (p : Int) + 0) = 1) && decide (R (11 + 5 * (p : Int) + 3) < n))) (yA R) 0 0 = 0 from rfl, show ((0 : Nat) : Int) = 0 from rfl] at this
  rw [this]
  rfl
theorem dear_L {ru : Nat} {v : zHp} {R : Int → Int} (hR : zWR R) (h : zRC ru v R) {b : Nat} (hb : b < 2 ^ 31) : ∀ (m fu p : Nat), p + m = (R 10).toNat → m < fu → fX7_dearestOf_L4 fu v ru (b : Int) (yDr R b.testBit p) (p : Int) = some (v, yDr R b.testBit (R 10).toNat)
  | 0, fu, p, h1, h2 => by
    obtain ⟨k, rfl⟩ : ∃ k, fu = k + 1 := ⟨fu - 1, by omega⟩
    have hb := hR.2.2.1
    have hn : v ru 2 = R 10 := h.2.2.1.1
    rw [fX7_dearestOf_L4.eq_2, hn, if_pos (by omega), show p = (R 10).toNat by omega]
  | m + 1, fu, p, h1, h2 => by
    obtain ⟨k, rfl⟩ : ∃ k, fu = k + 1 := ⟨fu - 1, by omega⟩
    have hb8 := hR.2.2.1
    have hn : v ru 2 = R 10 := h.2.2.1.1
    have hd := yDr_b (R := R) (P := b.testBit) p
    have ih := dear_L hR h hb m k (p + 1) (by omega) (by omega)
    have e1 : yHn R (p : Int) = R (11 + 5 * (p : Int) + 1) := if_neg (by omega)
    have e : yDr R b.testBit (p + 1) = if (b.testBit p && decide (yHn R (yDr R b.testBit p) < R (11 + 5 * (p : Int) + 1))) = true then (p : Int) else yDr R b.testBit p := rfl
    rw [e] at ih
    rw [fX7_dearestOf_L4.eq_2, hn, if_neg (by omega), zbit_n (by omega) hb, c_hundredthsUnder hR h (by omega), zcl_e, c_hundredthsUnder hR h (by omega), zcl_e, e1]
    simp only [zn_pos (show -2147483648 ≤ (p : Int) + 1 ∧ (p : Int) + 1 ≤ 2147483647 by omega)]
    rw [show (p : Int) + 1 = ((p + 1 : Nat) : Int) by omega, ← ih]
    cases a : b.testBit p with
    | false => rw [if_pos (by decide), Bool.false_and, if_neg (by decide : ¬ (false = true))]
    | true =>
      rw [if_neg (by decide)]
      by_cases c : yHn R (yDr R b.testBit p) < R (11 + 5 * (p : Int) + 1)
      · rw [if_neg (by omega), decide_eq_true c, Bool.and_self, if_pos rfl]
      · rw [if_pos (by omega), decide_eq_false c, Bool.and_false, if_neg (by decide : ¬ (false = true))]
theorem c_dearestOf {ru : Nat} {v : zHp} {R : Int → Int} (hR : zWR R) (h : zRC ru v R) {b : Nat} (hb : b < 2 ^ 31) : fX7_dearestOf v ru (b : Int) = some (v, yDr R b.testBit (R 10).toNat) := by
  have := dear_L hR h hb (R 10).toNat zFU 0 (by omega) (zFU_lt (by have := hR.2.2.1; omega))
  unfold fX7_dearestOf
  rw [show yDr R b.testBit 0 = -1 from rfl, show ((0 : Nat) : Int) = 0 from rfl] at this
  rw [this]
  rfl
