/-! PURE: the best way, and as they come, over the list of a week's bits; no heap in it. My own text. -/
def yOc (R : Int → Int) (b : Nat) : Int := yMost (fun p => b.testBit p && decide (R (11 + 5 * (p : Int) + 2) = 1)) (yH R) 0 (R 10).toNat
def yOp (R : Int → Int) (b : Nat) : Int := yMost (fun p => b.testBit p && decide (R (11 + 5 * (p : Int) + 2) = 0)) (yH R) (-1) (R 10).toNat
/-- the week premiums that may be when so many count ahead -/
def yWm (R : Int → Int) (al : Nat) (c : Int) : Nat := zmk (zWb R c) (R 10).toNat &&& al
/-- a quarter that counts, one that doesn't: how much it wins -/
def yAc (R : Int → Int) (al b : Nat) (c : Int) : Int := max (yOc R b) (yOc R (yWm R al c))
def yAo (R : Int → Int) (al b : Nat) (c : Int) : Int := max (yOp R b) (yOp R (yWm R al c))
/-- how much can be won from here on -/
def yW (R : Int → Int) (al : Nat) : List Nat → Int → Int
  | [], _ => 0
  | b :: t, c => max (yW R al t (c + 1) + yAc R al b c) (if yAo R al b c = -1 then -1 else yW R al t c + yAo R al b c)
def yFs (P : Nat → Bool) : Nat → Int
  | 0 => -1
  | n + 1 => if yFs P n ≠ -1 then yFs P n else if P n then (n : Int) else -1
def yPk (R : Int → Int) (m : Nat) (x1 x0 L : Int) : Int := if x1 = L then -1 else yFs (fun p => m.testBit p && decide (R (11 + 5 * (p : Int) + 1) + (if R (11 + 5 * (p : Int) + 2) = 1 then x1 else x0) = L)) (R 10).toNat
/-- the pick at the head -/
def yHd (R : Int → Int) (al b : Nat) (t : List Nat) (c : Int) : Int := yPk R (b ||| yWm R al c) (yW R al t (c + 1)) (yW R al t c) (yW R al (b :: t) c)
def yB (R : Int → Int) (al : Nat) : List Nat → Int → List Int
  | [], _ => []
  | b :: t, c => yHd R al b t c :: yB R al t (c + yCn R (yHd R al b t c))
/-- how many count ahead -/
def yBc (R : Int → Int) (al : Nat) : List Nat → Int → List Int
  | [], _ => []
  | b :: t, c => c :: yBc R al t (c + yCn R (yHd R al b t c))
def yBe (R : Int → Int) (al : Nat) : List Nat → Int → Int
  | [], c => c
  | b :: t, c => yBe R al t (c + yCn R (yHd R al b t c))
def yCm (R : Int → Int) (al : Nat) : List Nat → Int → List Int
  | [], _ => []
  | b :: t, c => yDr R (b ||| yWm R al c).testBit (R 10).toNat :: yCm R al t (c + yCn R (yDr R (b ||| yWm R al c).testBit (R 10).toNat))
def yCe (R : Int → Int) (al : Nat) : List Nat → Int → Int
  | [], c => c
  | b :: t, c => yCe R al t (c + yCn R (yDr R (b ||| yWm R al c).testBit (R 10).toNat))
theorem yFs_b {P : Nat → Bool} : ∀ n : Nat, (yFs P n = -1 ∧ ∀ p, p < n → P p = false) ∨ ∃ q : Nat, yFs P n = (q : Int) ∧ q < n ∧ P q = true ∧ ∀ p, p < q → P p = false
  | 0 => Or.inl ⟨rfl, fun p h => absurd h (Nat.not_lt_zero _)⟩
  | n + 1 => by
    have h := yFs_b (P := P) n
    unfold yFs
    rcases h with ⟨h1, h2⟩ | ⟨q, h1, h2, h3, h4⟩
    · rw [if_neg (fun h => h h1)]
      by_cases c : P n = true
      · rw [if_pos c]
        exact Or.inr ⟨n, rfl, Nat.lt_succ_self n, c, h2⟩
      · rw [if_neg c]
        refine Or.inl ⟨rfl, fun p hp => ?_⟩
        by_cases e : p = n
        · rw [e]
          exact Bool.eq_false_iff.mpr c
        · exact h2 p (by omega)
    · rw [if_pos (by omega)]
      exact Or.inr ⟨q, h1, by omega, h3, h4⟩
theorem yOc_b {R : Int → Int} (hR : zWR R) {b : Nat} : 0 ≤ yOc R b ∧ yOc R b ≤ 300 := by
  refine ⟨(yMost_ge _).1, ?_⟩
  rcases yMost_is (P := fun p => b.testBit p && decide (R (11 + 5 * (p : Int) + 2) = 1)) (H := yH R) (o := 0) (R 10).toNat with h | ⟨p, h1, h2, h3⟩
  · unfold yOc
    rw [h]
    decide
  · unfold yOc
    rw [h3]
    exact (yH_b hR h1).2.1
theorem yOp_b {R : Int → Int} (hR : zWR R) {b : Nat} : yOp R b = -1 ∨ (1 ≤ yOp R b ∧ yOp R b ≤ 300) := by
  rcases yMost_is (P := fun p => b.testBit p && decide (R (11 + 5 * (p : Int) + 2) = 0)) (H := yH R) (o := -1) (R 10).toNat with h | ⟨p, h1, h2, h3⟩
  · exact Or.inl h
  · refine Or.inr ?_
    unfold yOp
    rw [h3]
    exact ⟨(yH_b hR h1).1, (yH_b hR h1).2.1⟩
theorem yAc_b {R : Int → Int} (hR : zWR R) {al b : Nat} {c : Int} : 0 ≤ yAc R al b c ∧ yAc R al b c ≤ 300 := by
  have h1 := yOc_b hR (b := b)
  have h2 := yOc_b hR (b := yWm R al c)
  unfold yAc
  omega
theorem yAo_b {R : Int → Int} (hR : zWR R) {al b : Nat} {c : Int} : yAo R al b c = -1 ∨ (1 ≤ yAo R al b c ∧ yAo R al b c ≤ 300) := by
  have h1 := yOp_b hR (b := b)
  have h2 := yOp_b hR (b := yWm R al c)
  unfold yAo
  omega
theorem yW_b {R : Int → Int} (hR : zWR R) {al : Nat} : ∀ (l : List Nat) (c : Int), 0 ≤ yW R al l c ∧ yW R al l c ≤ 300 * (l.length : Int)
  | [], c => ⟨Int.le_refl _, Int.le_refl _⟩
  | b :: t, c => by
    have h1 := yW_b hR (al := al) t (c + 1)
    have h2 := yW_b hR (al := al) t c
    have h3 := yAc_b hR (al := al) (b := b) (c := c)
    have h4 := yAo_b hR (al := al) (b := b) (c := c)
    unfold yW
    rw [List.length_cons]
    split <;> omega
theorem yCn_b {R : Int → Int} (hR : zWR R) {x : Int} (hx : x = -1 ∨ (0 ≤ x ∧ x < R 10)) : yCn R x = 0 ∨ yCn R x = 1 := by
  unfold yCn
  by_cases c : x = -1
  · rw [if_pos c]
    exact Or.inr rfl
  · rw [if_neg c]
    have h := (hR.2.2.2 x.toNat (by omega)).2.2.2.2.1
    rw [show ((x.toNat : Nat) : Int) = x by omega] at h
    exact h
theorem yHn_b {R : Int → Int} (hR : zWR R) {x : Int} (hx : x = -1 ∨ (0 ≤ x ∧ x < R 10)) : 0 ≤ yHn R x ∧ yHn R x ≤ 300 := by
  unfold yHn
  by_cases c : x = -1
  · rw [if_pos c]
    decide
  · rw [if_neg c]
    have h := (hR.2.2.2 x.toNat (by omega)).2.2.1
    have h' := (hR.2.2.2 x.toNat (by omega)).2.2.2.1
    rw [show ((x.toNat : Nat) : Int) = x by omega] at h h'
    omega
/-- the most by a mask is had by one of its premiums, and none has more -/
theorem yAc_is {R : Int → Int} {al b : Nat} {c : Int} : yAc R al b c = 0 ∨ ∃ p, p < (R 10).toNat ∧ (b ||| yWm R al c).testBit p = true ∧ R (11 + 5 * (p : Int) + 2) = 1 ∧ R (11 + 5 * (p : Int) + 1) = yAc R al b c := by
  unfold yAc
  have h1 := yMost_is (P := fun p => b.testBit p && decide (R (11 + 5 * (p : Int) + 2) = 1)) (H := yH R) (o := 0) (R 10).toNat
  have h2 := yMost_is (P := fun p => (yWm R al c).testBit p && decide (R (11 + 5 * (p : Int) + 2) = 1)) (H := yH R) (o := 0) (R 10).toNat
  have g1 := (yMost_ge (P := fun p => b.testBit p && decide (R (11 + 5 * (p : Int) + 2) = 1)) (H := yH R) (o := 0) (R 10).toNat).1
  have g2 := (yMost_ge (P := fun p => (yWm R al c).testBit p && decide (R (11 + 5 * (p : Int) + 2) = 1)) (H := yH R) (o := 0) (R 10).toNat).1
  change yOc R b = 0 ∨ _ at h1
  change yOc R (yWm R al c) = 0 ∨ _ at h2
  change 0 ≤ yOc R b at g1
  change 0 ≤ yOc R (yWm R al c) at g2
  by_cases d : yOc R (yWm R al c) ≤ yOc R b
  · rw [show max (yOc R b) (yOc R (yWm R al c)) = yOc R b by omega]
    rcases h1 with h | ⟨p, a1, a2, a3⟩
    · exact Or.inl h
    · rw [Bool.and_eq_true, decide_eq_true_iff] at a2
      refine Or.inr ⟨p, a1, ?_, a2.2, a3.symm⟩
      rw [Nat.testBit_or, a2.1, Bool.true_or]
  · rw [show max (yOc R b) (yOc R (yWm R al c)) = yOc R (yWm R al c) by omega]
    rcases h2 with h | ⟨p, a1, a2, a3⟩
    · exact Or.inl h
    · rw [Bool.and_eq_true, decide_eq_true_iff] at a2
      refine Or.inr ⟨p, a1, ?_, a2.2, a3.symm⟩
      rw [Nat.testBit_or, a2.1, Bool.or_true]
theorem yAo_is {R : Int → Int} (hR : zWR R) {al b : Nat} {c : Int} : yAo R al b c = -1 ∨ ∃ p, p < (R 10).toNat ∧ (b ||| yWm R al c).testBit p = true ∧ R (11 + 5 * (p : Int) + 2) = 0 ∧ R (11 + 5 * (p : Int) + 1) = yAo R al b c := by
  unfold yAo
  have h1 := yMost_is (P := fun p => b.testBit p && decide (R (11 + 5 * (p : Int) + 2) = 0)) (H := yH R) (o := -1) (R 10).toNat
  have h2 := yMost_is (P := fun p => (yWm R al c).testBit p && decide (R (11 + 5 * (p : Int) + 2) = 0)) (H := yH R) (o := -1) (R 10).toNat
  have g1 := yOp_b hR (b := b)
  have g2 := yOp_b hR (b := yWm R al c)
  change yOp R b = -1 ∨ _ at h1
  change yOp R (yWm R al c) = -1 ∨ _ at h2
  by_cases d : yOp R (yWm R al c) ≤ yOp R b
  · rw [show max (yOp R b) (yOp R (yWm R al c)) = yOp R b by omega]
    rcases h1 with h | ⟨p, a1, a2, a3⟩
    · exact Or.inl h
    · rw [Bool.and_eq_true, decide_eq_true_iff] at a2
      refine Or.inr ⟨p, a1, ?_, a2.2, a3.symm⟩
      rw [Nat.testBit_or, a2.1, Bool.true_or]
  · rw [show max (yOp R b) (yOp R (yWm R al c)) = yOp R (yWm R al c) by omega]
    rcases h2 with h | ⟨p, a1, a2, a3⟩
    · exact Or.inl h
    · rw [Bool.and_eq_true, decide_eq_true_iff] at a2
      refine Or.inr ⟨p, a1, ?_, a2.2, a3.symm⟩
      rw [Nat.testBit_or, a2.1, Bool.or_true]
theorem yA_ge {R : Int → Int} {al b : Nat} {c : Int} {p : Nat} (hp : p < (R 10).toNat) (h : (b ||| yWm R al c).testBit p = true) : (R (11 + 5 * (p : Int) + 2) = 1 → R (11 + 5 * (p : Int) + 1) ≤ yAc R al b c) ∧ (R (11 + 5 * (p : Int) + 2) = 0 → R (11 + 5 * (p : Int) + 1) ≤ yAo R al b c) := by
  rw [Nat.testBit_or, Bool.or_eq_true] at h
  refine ⟨fun hc => ?_, fun hc => ?_⟩
  · unfold yAc
    rcases h with h | h
    · have := (yMost_ge (P := fun p => b.testBit p && decide (R (11 + 5 * (p : Int) + 2) = 1)) (H := yH R) (o := 0) (R 10).toNat).2 p hp (by rw [Bool.and_eq_true, decide_eq_true_iff]; exact ⟨h, hc⟩)
      change R (11 + 5 * (p : Int) + 1) ≤ yOc R b at this
      omega
    · have := (yMost_ge (P := fun p => (yWm R al c).testBit p && decide (R (11 + 5 * (p : Int) + 2) = 1)) (H := yH R) (o := 0) (R 10).toNat).2 p hp (by rw [Bool.and_eq_true, decide_eq_true_iff]; exact ⟨h, hc⟩)
      change R (11 + 5 * (p : Int) + 1) ≤ yOc R (yWm R al c) at this
      omega
  · unfold yAo
    rcases h with h | h
    · have := (yMost_ge (P := fun p => b.testBit p && decide (R (11 + 5 * (p : Int) + 2) = 0)) (H := yH R) (o := -1) (R 10).toNat).2 p hp (by rw [Bool.and_eq_true, decide_eq_true_iff]; exact ⟨h, hc⟩)
      change R (11 + 5 * (p : Int) + 1) ≤ yOp R b at this
      omega
    · have := (yMost_ge (P := fun p => (yWm R al c).testBit p && decide (R (11 + 5 * (p : Int) + 2) = 0)) (H := yH R) (o := -1) (R 10).toNat).2 p hp (by rw [Bool.and_eq_true, decide_eq_true_iff]; exact ⟨h, hc⟩)
      change R (11 + 5 * (p : Int) + 1) ≤ yOp R (yWm R al c) at this
      omega
/-- the pick at the head: what it is, and that it wins what can be won -/
theorem yHd_ok {R : Int → Int} (hR : zWR R) {al b : Nat} {t : List Nat} {c : Int} : (yHd R al b t c = -1 ∧ yW R al t (c + 1) = yW R al (b :: t) c) ∨ ∃ p : Nat, yHd R al b t c = (p : Int) ∧ p < (R 10).toNat ∧ yW R al t (c + 1) ≠ yW R al (b :: t) c ∧ (b ||| yWm R al c).testBit p = true ∧ R (11 + 5 * (p : Int) + 1) + (if R (11 + 5 * (p : Int) + 2) = 1 then yW R al t (c + 1) else yW R al t c) = yW R al (b :: t) c := by
  unfold yHd yPk
  by_cases c1 : yW R al t (c + 1) = yW R al (b :: t) c
  · rw [if_pos c1]
    exact Or.inl ⟨rfl, c1⟩
  · rw [if_neg c1]
    right
    rcases yFs_b (P := fun p => (b ||| yWm R al c).testBit p && decide (R (11 + 5 * (p : Int) + 1) + (if R (11 + 5 * (p : Int) + 2) = 1 then yW R al t (c + 1) else yW R al t c) = yW R al (b :: t) c)) (R 10).toNat with ⟨h1, h2⟩ | ⟨q, h1, h2, h3, h4⟩
    · exfalso
      have no : ∀ p, p < (R 10).toNat → (b ||| yWm R al c).testBit p = true → R (11 + 5 * (p : Int) + 1) + (if R (11 + 5 * (p : Int) + 2) = 1 then yW R al t (c + 1) else yW R al t c) = yW R al (b :: t) c → False := fun p hp a1 a2 => by
        have := h2 p hp
        rw [a1, decide_eq_true a2] at this
        exact absurd this (by decide)
      have e : yW R al (b :: t) c = max (yW R al t (c + 1) + yAc R al b c) (if yAo R al b c = -1 then -1 else yW R al t c + yAo R al b c) := rfl
      have b1 := yW_b hR (al := al) t (c + 1)
      have b2 := yW_b hR (al := al) t c
      by_cases d : yW R al (b :: t) c = yW R al t (c + 1) + yAc R al b c
      · rcases yAc_is (R := R) (al := al) (b := b) (c := c) with h | ⟨p, p1, p2, p3, p4⟩
        · omega
        · refine no p p1 p2 ?_
          rw [if_pos p3]
          omega
      · rcases yAo_is hR (al := al) (b := b) (c := c) with h | ⟨p, p1, p2, p3, p4⟩
        · rw [if_pos h] at e
          have := yAc_b hR (al := al) (b := b) (c := c)
          omega
        · have p5 := (yH_b hR p1).1
          have p6 : R (11 + 5 * (p : Int) + 1) = yAo R al b c := p4
          change 1 ≤ R (11 + 5 * (p : Int) + 1) at p5
          rw [if_neg (by omega)] at e
          refine no p p1 p2 ?_
          rw [if_neg (by omega)]
          omega
    · rw [Bool.and_eq_true, decide_eq_true_iff] at h3
      exact ⟨q, h1, h2, c1, h3.1, h3.2⟩
theorem yHd_b {R : Int → Int} (hR : zWR R) {al b : Nat} {t : List Nat} {c : Int} : yHd R al b t c = -1 ∨ (0 ≤ yHd R al b t c ∧ yHd R al b t c < R 10) := by
  have h8 := hR.2.2.1
  rcases yHd_ok hR (al := al) (b := b) (t := t) (c := c) with h | ⟨p, h1, h2, _⟩
  · exact Or.inl h.1
  · omega
theorem yHd_v {R : Int → Int} (hR : zWR R) {al b : Nat} {t : List Nat} {c : Int} : yHn R (yHd R al b t c) + yW R al t (c + yCn R (yHd R al b t c)) = yW R al (b :: t) c := by
  rcases yHd_ok hR (al := al) (b := b) (t := t) (c := c) with ⟨h1, h2⟩ | ⟨p, h1, h2, _, h3, h4⟩
  · rw [h1]
    show 0 + yW R al t (c + 1) = _
    omega
  · rw [h1]
    have e1 : yHn R (p : Int) = R (11 + 5 * (p : Int) + 1) := if_neg (by omega)
    have e2 : yCn R (p : Int) = R (11 + 5 * (p : Int) + 2) := if_neg (by omega)
    rw [e1, e2, ← h4]
    have h5 := (yH_b hR h2).2.2.1
    rcases h5 with h5 | h5
    · rw [h5, if_neg (by decide), Int.add_zero]
    · rw [h5, if_pos rfl]
/-- sums over a list -/
def ySum (f : Int → Int) : List Int → Int
  | [] => 0
  | x :: l => f x + ySum f l
theorem yB_sum {R : Int → Int} (hR : zWR R) {al : Nat} : ∀ (l : List Nat) (c : Int), ySum (yHn R) (yB R al l c) = yW R al l c
  | [], _ => rfl
  | b :: t, c => by
    show yHn R (yHd R al b t c) + ySum (yHn R) (yB R al t (c + yCn R (yHd R al b t c))) = _
    rw [yB_sum hR t]
    exact yHd_v hR
theorem yB_len {R : Int → Int} {al : Nat} : ∀ (l : List Nat) (c : Int), (yB R al l c).length = l.length
  | [], _ => rfl
  | b :: t, c => by
    show (yB R al t _).length + 1 = t.length + 1
    rw [yB_len t]
theorem yBc_len {R : Int → Int} {al : Nat} : ∀ (l : List Nat) (c : Int), (yBc R al l c).length = l.length
  | [], _ => rfl
  | b :: t, c => by
    show (yBc R al t _).length + 1 = t.length + 1
    rw [yBc_len t]
theorem yCm_len {R : Int → Int} {al : Nat} : ∀ (l : List Nat) (c : Int), (yCm R al l c).length = l.length
  | [], _ => rfl
  | b :: t, c => by
    show (yCm R al t _).length + 1 = t.length + 1
    rw [yCm_len t]
theorem yB_end {R : Int → Int} {al : Nat} : ∀ (l : List Nat) (c : Int), yBe R al l c = c + ySum (yCn R) (yB R al l c)
  | [], c => (Int.add_zero c).symm
  | b :: t, c => by
    show yBe R al t (c + yCn R (yHd R al b t c)) = c + (yCn R (yHd R al b t c) + ySum (yCn R) (yB R al t (c + yCn R (yHd R al b t c))))
    rw [yB_end t, Int.add_assoc]
theorem yCm_end {R : Int → Int} {al : Nat} : ∀ (l : List Nat) (c : Int), yCe R al l c = c + ySum (yCn R) (yCm R al l c)
  | [], c => (Int.add_zero c).symm
  | b :: t, c => by
    show yCe R al t (c + yCn R (yDr R (b ||| yWm R al c).testBit (R 10).toNat)) = c + (yCn R (yDr R (b ||| yWm R al c).testBit (R 10).toNat) + ySum (yCn R) (yCm R al t (c + yCn R (yDr R (b ||| yWm R al c).testBit (R 10).toNat))))
    rw [yCm_end t, Int.add_assoc]
theorem yB_in {R : Int → Int} (hR : zWR R) {al : Nat} : ∀ (l : List Nat) (c : Int) (i : Nat), i < l.length → (yB R al l c).getD i 0 = -1 ∨ (0 ≤ (yB R al l c).getD i 0 ∧ (yB R al l c).getD i 0 < R 10)
  | [], _, i, h => absurd h (Nat.not_lt_zero _)
  | b :: t, c, 0, _ => yHd_b hR
  | b :: t, c, i + 1, h => yB_in hR t _ i (Nat.lt_of_succ_lt_succ h)
theorem yCm_in {R : Int → Int} (hR : zWR R) {al : Nat} : ∀ (l : List Nat) (c : Int) (i : Nat), i < l.length → (yCm R al l c).getD i 0 = -1 ∨ (0 ≤ (yCm R al l c).getD i 0 ∧ (yCm R al l c).getD i 0 < R 10)
  | [], _, i, h => absurd h (Nat.not_lt_zero _)
  | b :: t, c, 0, _ => by
    have h8 := hR.2.2.1
    have := yDr_b (R := R) (P := (b ||| yWm R al c).testBit) (R 10).toNat
    show yDr R (b ||| yWm R al c).testBit (R 10).toNat = -1 ∨ (0 ≤ yDr R (b ||| yWm R al c).testBit (R 10).toNat ∧ yDr R (b ||| yWm R al c).testBit (R 10).toNat < R 10)
    omega
  | b :: t, c, i + 1, h => yCm_in hR t _ i (Nat.lt_of_succ_lt_succ h)
/-- beyond the largest number that matters, more that count change nothing -/
theorem yWm_top {R : Int → Int} {al : Nat} {N c c' : Int} (h : yTop R al N ≤ c ∧ c < N) (h' : yTop R al N ≤ c' ∧ c' < N) : yWm R al c = yWm R al c' := by
  apply Nat.eq_of_testBit_eq
  intro p
  unfold yWm
  rw [Nat.testBit_and, Nat.testBit_and, zmk_bit, zmk_bit]
  by_cases hp : p < (R 10).toNat
  · rw [decide_eq_true hp, Bool.true_and, Bool.true_and]
    cases ha : al.testBit p with
    | false => rw [Bool.and_false, Bool.and_false]
    | true =>
      rw [Bool.and_true, Bool.and_true]
      unfold zWb
      by_cases k : R (11 + 5 * (p : Int) + 0) = 1
      · rw [decide_eq_true k, Bool.true_and, Bool.true_and]
        by_cases n : R (11 + 5 * (p : Int) + 3) < N
        · have := (yMost_ge (P := fun p => al.testBit p && (decide (R (11 + 5 * (p : Int) + 0) = 1) && decide (R (11 + 5 * (p : Int) + 3) < N))) (H := yA R) (o := 0) (R 10).toNat).2 p hp (by rw [ha, decide_eq_true k, decide_eq_true n]; rfl)
          change R (11 + 5 * (p : Int) + 3) ≤ yTop R al N at this
          rw [decide_eq_true (by omega), decide_eq_true (by omega)]
        · rw [decide_eq_false (by omega), decide_eq_false (by omega)]
      · rw [decide_eq_false k, Bool.false_and, Bool.false_and]
  · rw [decide_eq_false hp, Bool.false_and, Bool.false_and, Bool.false_and, Bool.false_and]
theorem yW_top {R : Int → Int} {al : Nat} {N : Int} : ∀ (l : List Nat) (c c' : Int), yTop R al N ≤ c → c + (l.length : Int) ≤ N → yTop R al N ≤ c' → c' + (l.length : Int) ≤ N → yW R al l c = yW R al l c'
  | [], _, _, _, _, _, _ => rfl
  | b :: t, c, c', h1, h2, h3, h4 => by
    rw [List.length_cons] at h2 h4
    have e := yWm_top (R := R) (al := al) (N := N) (c := c) (c' := c') ⟨h1, by omega⟩ ⟨h3, by omega⟩
    unfold yW yAc yAo
    rw [yW_top (N := N) t (c + 1) (c' + 1) (by omega) (by omega) (by omega) (by omega), yW_top (N := N) t c c' h1 (by omega) h3 (by omega), e]
theorem yTop_b {R : Int → Int} {al : Nat} {N : Int} : 0 ≤ yTop R al N ∧ (yTop R al N = 0 ∨ yTop R al N < N) := by
  refine ⟨(yMost_ge _).1, ?_⟩
  rcases yMost_is (P := fun p => al.testBit p && (decide (R (11 + 5 * (p : Int) + 0) = 1) && decide (R (11 + 5 * (p : Int) + 3) < N))) (H := yA R) (o := 0) (R 10).toNat with h | ⟨p, h1, h2, h3⟩
  · exact Or.inl h
  · right
    rw [Bool.and_eq_true, Bool.and_eq_true, decide_eq_true_iff, decide_eq_true_iff] at h2
    unfold yTop
    rw [h3]
    exact h2.2.2
