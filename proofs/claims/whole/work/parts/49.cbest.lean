/-! PURE: the class's table of what can be won. My own text. -/
/-- how many count at least ahead of a quarter -/
def yLs (R : Int → Int) (al : Nat) (bs : List Nat) : Nat → Int
  | 0 => 0
  | i + 1 => if yLs R al bs i < yTop R al bs.length ∧ yOp R (bs.getD i 0) = -1 ∧ yOp R (yWm R al (yLs R al bs i)) = -1 then yLs R al bs i + 1 else yLs R al bs i
theorem yLs_b {R : Int → Int} {al : Nat} {bs : List Nat} : ∀ i : Nat, 0 ≤ yLs R al bs i ∧ yLs R al bs i ≤ (i : Int) ∧ yLs R al bs i ≤ yTop R al bs.length
  | 0 => ⟨Int.le_refl _, Int.le_refl _, yTop_b.1⟩
  | i + 1 => by
    have h := yLs_b (R := R) (al := al) (bs := bs) i
    unfold yLs
    split <;> omega
theorem yLs_up {R : Int → Int} {al : Nat} {bs : List Nat} (i : Nat) : (yLs R al bs (i + 1) = yLs R al bs i) ∨ (yLs R al bs (i + 1) = yLs R al bs i + 1 ∧ yLs R al bs i < yTop R al bs.length ∧ yOp R (bs.getD i 0) = -1 ∧ yOp R (yWm R al (yLs R al bs i)) = -1) := by
  have e : yLs R al bs (i + 1) = if yLs R al bs i < yTop R al bs.length ∧ yOp R (bs.getD i 0) = -1 ∧ yOp R (yWm R al (yLs R al bs i)) = -1 then yLs R al bs i + 1 else yLs R al bs i := rfl
  by_cases h : yLs R al bs i < yTop R al bs.length ∧ yOp R (bs.getD i 0) = -1 ∧ yOp R (yWm R al (yLs R al bs i)) = -1
  · rw [if_pos h] at e
    exact Or.inr ⟨e, h⟩
  · rw [if_neg h] at e
    exact Or.inl e
theorem yWm_lt {R : Int → Int} (hR : zWR R) {al : Nat} {c : Int} : yWm R al c < 2 ^ 31 := Nat.lt_of_le_of_lt Nat.and_le_left (zmk_31 (by have := hR.2.2.1; omega))
/-- the week premiums' rows -/
def yTw (R : Int → Int) (al : Nat) (top : Int) (v : zHp) : Prop := v 125 8 = top ∧ ∀ c : Nat, (c : Int) ≤ top → v 132 (c : Int) = yOc R (yWm R al (c : Int)) ∧ v 133 (c : Int) = yOp R (yWm R al (c : Int))
theorem tw_L {R : Int → Int} {ru al : Nat} {top : Int} (hR : zWR R) (ht : 0 ≤ top ∧ top < 676) : ∀ (m fu c : Nat) (v : zHp), (c : Int) + (m : Int) = top + 1 → m < fu → zRC ru v R → v 125 8 = top → (∀ x : Nat, x < c → v 132 (x : Int) = yOc R (yWm R al (x : Int)) ∧ v 133 (x : Int) = yOp R (yWm R al (x : Int)) ∧ v 135 (x : Int) = 0) → ∃ v', fX0_payBest_L18 fu v ru (al : Int) (c : Int) = some (v', 0) ∧ yTw R al top v' ∧ (∀ x : Nat, (x : Int) ≤ top → v' 135 (x : Int) = 0) ∧ ∀ a, a ≠ 132 → a ≠ 133 → a ≠ 135 → v' a = v a
  | 0, fu, c, v, h1, h2, h3, h4, h5 => by
    obtain ⟨k, rfl⟩ : ∃ k, fu = k + 1 := ⟨fu - 1, by omega⟩
    refine ⟨v, ?_, ⟨h4, fun x hx => ⟨(h5 x (by omega)).1, (h5 x (by omega)).2.1⟩⟩, fun x hx => (h5 x (by omega)).2.2, fun a _ _ _ => rfl⟩
    rw [fX0_payBest_L18.eq_2, if_pos (by omega)]
  | m + 1, fu, c, v, h1, h2, h3, h4, h5 => by
    obtain ⟨k, rfl⟩ : ∃ k, fu = k + 1 := ⟨fu - 1, by omega⟩
    have h8 := hR.2.2.1
    have hr0 := h3.1
    have eA : zand ((zmk (zWb R (c : Int)) (R 10).toNat : Nat) : Int) (al : Int) = ((yWm R al (c : Int) : Nat) : Int) := zand_n (zmk_31 (by omega))
    have n1 : ∀ x a, a ≠ 132 → zst v 132 (c : Int) x a = v a := fun x a ha => by funext j; exact zst_na ha
    have h3' : ∀ x, zRC ru (zst v 132 (c : Int) x) R := fun x => h3.of hR fun a a1 a2 => n1 x a (by omega)
    rw [fX0_payBest_L18.eq_2, if_neg (by omega), c_weekBits hR h3, zcl_e, eA, c_mostOf hR h3 (yWm_lt hR), zcl_e, zck_pos (by omega), zb_e, c_mostOf hR (h3' _) (yWm_lt hR), zcl_e, zck_pos (by omega), zb_e, zck_pos (by omega), zb_e, zn_pos (by omega), show (c : Int) + 1 = ((c + 1 : Nat) : Int) by omega]
    have e1 : yMost (fun p => (yWm R al (c : Int)).testBit p && decide (R (11 + 5 * (p : Int) + 2) = 1)) (yH R) 0 (R 10).toNat = yOc R (yWm R al (c : Int)) := rfl
    have e2 : yMost (fun p => (yWm R al (c : Int)).testBit p && decide (R (11 + 5 * (p : Int) + 2) = 0)) (yH R) (-1) (R 10).toNat = yOp R (yWm R al (c : Int)) := rfl
    rw [e1, e2]
    have nb : ∀ a, a ≠ 132 → a ≠ 133 → a ≠ 135 → zst (zst (zst v 132 (c : Int) (yOc R (yWm R al (c : Int)))) 133 (c : Int) (yOp R (yWm R al (c : Int)))) 135 (c : Int) 0 a = v a := fun a a1 a2 a3 => by
      funext j
      rw [zst_na a3, zst_na a2, zst_na a1]
    obtain ⟨v', g1, g2, g3, g4⟩ := tw_L (al := al) hR ht m k (c + 1) (zst (zst (zst v 132 (c : Int) (yOc R (yWm R al (c : Int)))) 133 (c : Int) (yOp R (yWm R al (c : Int)))) 135 (c : Int) 0) (by omega) (by omega) (h3.of hR fun a a1 a2 => nb a (by omega) (by omega) (by omega)) (by rw [nb 125 (by decide) (by decide) (by decide)]; exact h4) (fun x hx => by
      rw [zst_na (by decide), zst_na (by decide), zst_if, zst_na (by decide), zst_if, zst_na (by decide), zst_if, zst_na (by decide), zst_na (by decide)]
      by_cases e : x = c
      · have e' : (x : Int) = (c : Int) := by omega
        rw [if_pos e', if_pos e', if_pos e', e]
        exact ⟨rfl, rfl, rfl⟩
      · have e' : ¬ (x : Int) = (c : Int) := by omega
        rw [if_neg e', if_neg e', if_neg e']
        exact h5 x (by omega))
    exact ⟨v', g1, g2, g3, fun a a1 a2 a3 => by rw [g4 a a1 a2 a3, nb a a1 a2 a3]⟩
/-- the quarters' own rows -/
def yTq (R : Int → Int) (al : Nat) (bs : List Nat) (i : Nat) (v : zHp) : Prop := ∀ j : Nat, j < i → v 130 (j : Int) = yOc R (bs.getD j 0) ∧ v 131 (j : Int) = yOp R (bs.getD j 0) ∧ v 134 (j : Int) = yLs R al bs j
theorem meas_L {R : Int → Int} {ru al : Nat} {bs : List Nat} (hR : zWR R) (hb : yOk R bs) (hn : bs.length ≤ 676) : ∀ (m fu i : Nat) (v : zHp), i + m = bs.length → m < fu → zRC ru v R → yTw R al (yTop R al bs.length) v → v 126 3 = (bs.length : Int) → (∀ j : Nat, j < bs.length → v 128 (j : Int) = ((bs.getD j 0 : Nat) : Int)) → yTq R al bs i v → ∃ v', fX0_measureQuarters_L4 fu v ru (yLs R al bs i) (i : Int) = some (v', 0) ∧ yTq R al bs bs.length v' ∧ ∀ a, a ≠ 130 → a ≠ 131 → a ≠ 134 → v' a = v a
  | 0, fu, i, v, h1, h2, h3, h4, h5, h6, h7 => by
    obtain ⟨k, rfl⟩ : ∃ k, fu = k + 1 := ⟨fu - 1, by omega⟩
    refine ⟨v, ?_, by rw [← show i = bs.length by omega]; exact h7, fun a _ _ _ => rfl⟩
    rw [fX0_measureQuarters_L4.eq_2, if_pos (by omega)]
  | m + 1, fu, i, v, h1, h2, h3, h4, h5, h6, h7 => by
    obtain ⟨k, rfl⟩ : ∃ k, fu = k + 1 := ⟨fu - 1, by omega⟩
    have hi : i < bs.length := by omega
    have hr0 := h3.1
    have hb1 := (hb i hi).1
    have hl := yLs_b (R := R) (al := al) (bs := bs) i
    have ht := yTop_b (R := R) (al := al) (N := bs.length)
    have e1 : yMost (fun p => (bs.getD i 0).testBit p && decide (R (11 + 5 * (p : Int) + 2) = 1)) (yH R) 0 (R 10).toNat = yOc R (bs.getD i 0) := rfl
    have e2 : yMost (fun p => (bs.getD i 0).testBit p && decide (R (11 + 5 * (p : Int) + 2) = 0)) (yH R) (-1) (R 10).toNat = yOp R (bs.getD i 0) := rfl
    have n1 : ∀ x a, a ≠ 130 → zst v 130 (i : Int) x a = v a := fun x a ha => by funext j; exact zst_na ha
    have h3' : ∀ x, zRC ru (zst v 130 (i : Int) x) R := fun x => h3.of hR fun a a1 a2 => n1 x a (by omega)
    rw [fX0_measureQuarters_L4.eq_2, if_neg (by omega), zck_pos (by omega), h6 i hi, c_mostOf hR h3 hb1, zcl_e, zck_pos (by omega), zb_e, zck_pos (by omega), n1 _ 128 (by decide), h6 i hi, c_mostOf hR (h3' _) hb1, zcl_e, zck_pos (by omega), zb_e, zck_pos (by omega), zb_e, e1, e2]
    have nb : ∀ a, a ≠ 130 → a ≠ 131 → a ≠ 134 → zst (zst (zst v 130 (i : Int) (yOc R (bs.getD i 0))) 131 (i : Int) (yOp R (bs.getD i 0))) 134 (i : Int) (yLs R al bs i) a = v a := fun a a1 a2 a3 => by
      funext j
      rw [zst_na a3, zst_na a2, zst_na a1]
    have r131 : zst (zst (zst v 130 (i : Int) (yOc R (bs.getD i 0))) 131 (i : Int) (yOp R (bs.getD i 0))) 134 (i : Int) (yLs R al bs i) 131 (i : Int) = yOp R (bs.getD i 0) := by rw [zst_na (by decide), zst_eq]
    have hq : yTq R al bs (i + 1) (zst (zst (zst v 130 (i : Int) (yOc R (bs.getD i 0))) 131 (i : Int) (yOp R (bs.getD i 0))) 134 (i : Int) (yLs R al bs i)) := fun x hx => by
      rw [zst_na (by decide), zst_na (by decide), zst_if, zst_na (by decide), zst_if, zst_na (by decide), zst_if, zst_na (by decide), zst_na (by decide)]
      by_cases e : x = i
      · have e' : (x : Int) = (i : Int) := by omega
        rw [if_pos e', if_pos e', if_pos e', e]
        exact ⟨rfl, rfl, rfl⟩
      · have e' : ¬ (x : Int) = (i : Int) := by omega
        rw [if_neg e', if_neg e', if_neg e']
        exact h7 x (by omega)
    generalize zst (zst (zst v 130 (i : Int) (yOc R (bs.getD i 0))) 131 (i : Int) (yOp R (bs.getD i 0))) 134 (i : Int) (yLs R al bs i) = u at nb r131 hq ⊢
    have eL : yLs R al bs (i + 1) = if yLs R al bs i < yTop R al bs.length ∧ yOp R (bs.getD i 0) = -1 ∧ yOp R (yWm R al (yLs R al bs i)) = -1 then yLs R al bs i + 1 else yLs R al bs i := rfl
    have hw := (h4.2 (yLs R al bs i).toNat (by omega)).2
    rw [show (((yLs R al bs i).toNat : Nat) : Int) = yLs R al bs i by omega] at hw
    obtain ⟨v', g1, g2, g3⟩ := meas_L hR hb hn m k (i + 1) u (by omega) (by omega) (h3.of hR fun a a1 a2 => nb a (by omega) (by omega) (by omega)) (by
      unfold yTw
      rw [nb 125 (by decide) (by decide) (by decide), nb 132 (by decide) (by decide) (by decide), nb 133 (by decide) (by decide) (by decide)]
      exact h4) (by rw [nb 126 (by decide) (by decide) (by decide)]; exact h5) (by rw [nb 128 (by decide) (by decide) (by decide)]; exact h6) hq
    refine ⟨v', ?_, g2, fun a a1 a2 a3 => by rw [g3 a a1 a2 a3, nb a a1 a2 a3]⟩
    rw [← g1, nb 125 (by decide) (by decide) (by decide), h4.1, zck_pos (by omega), r131, zck_pos (by omega), nb 133 (by decide) (by decide) (by decide), hw]
    simp only [zn_pos (show -2147483648 ≤ (i : Int) + 1 ∧ (i : Int) + 1 ≤ 2147483647 by omega), zn_pos (show -2147483648 ≤ yLs R al bs i + 1 ∧ yLs R al bs i + 1 ≤ 2147483647 by omega)]
    rw [show (i : Int) + 1 = ((i + 1 : Nat) : Int) by omega]
    by_cases c1 : yLs R al bs i < yTop R al bs.length
    · rw [if_neg (by omega)]
      by_cases c2 : yOp R (bs.getD i 0) = -1
      · rw [if_neg (by omega)]
        by_cases c3 : yOp R (yWm R al (yLs R al bs i)) = -1
        · rw [if_pos ⟨c1, c2, c3⟩] at eL
          rw [if_neg (by omega), eL]
        · rw [if_neg (fun h => c3 h.2.2)] at eL
          rw [if_pos c3, eL]
      · rw [if_neg (fun h => c2 h.2.1)] at eL
        rw [if_pos c2, eL]
    · rw [if_neg (fun h => c1 h.1)] at eL
      rw [if_pos (by omega), eL]
/-- which ways are best, as a mark -/
def yMv (R : Int → Int) (al b : Nat) (t : List Nat) (c : Int) : Nat := if yW R al t (c + 1) + yAc R al b c < (if yAo R al b c = -1 then -1 else yW R al t c + yAo R al b c) then 2 else if (if yAo R al b c = -1 then -1 else yW R al t c + yAo R al b c) < yW R al t (c + 1) + yAc R al b c then 1 else 3
theorem yMv_lt {R : Int → Int} {al b : Nat} {t : List Nat} {c : Int} : yMv R al b t c < 4 := by
  unfold yMv
  repeat' split
  all_goals decide
theorem mark_L {R : Int → Int} {al i : Nat} {bs : List Nat} {b : Nat} {t : List Nat} (hR : zWR R) (hn : bs.length ≤ 676) (hi : i < bs.length) (hbi : b = bs.getD i 0) (hti : t = bs.drop (i + 1)) : ∀ (m fu c : Nat) (v : zHp), ((c : Int) + (m : Int) = min (i : Int) (yTop R al bs.length) + 1) → m < fu → yLs R al bs i ≤ (c : Int) → yTw R al (yTop R al bs.length) v → v 130 (i : Int) = yOc R b → v 131 (i : Int) = yOp R b → (∀ x : Nat, c ≤ x → yLs R al bs (i + 1) ≤ (x : Int) → (x : Int) ≤ min ((i : Int) + 1) (yTop R al bs.length) → v 135 (x : Int) = yW R al t (x : Int)) → ∃ v', fX0_markQuarter_L16 fu v (i : Int) (min (i : Int) (yTop R al bs.length)) (c : Int) = some (v', 0) ∧ (∀ x : Nat, c ≤ x → (x : Int) ≤ min (i : Int) (yTop R al bs.length) → v' 135 (x : Int) = yW R al (b :: t) (x : Int) ∧ yMk v' i x = ((yMv R al b t (x : Int) : Nat) : Int)) ∧ (∀ x : Nat, x < c → v' 135 (x : Int) = v 135 (x : Int) ∧ yMk v' i x = yMk v i x) ∧ (∀ i' x : Nat, i' < 676 → x < 676 → i' ≠ i → yMk v' i' x = yMk v i' x) ∧ ∀ a, a ≠ 135 → a ≠ 136 → v' a = v a
  | 0, fu, c, v, h1, h2, h3, h4, h5, h6, h7 => by
    obtain ⟨k, rfl⟩ : ∃ k, fu = k + 1 := ⟨fu - 1, by omega⟩
    refine ⟨v, ?_, fun x h8 h9 => by omega, fun x _ => ⟨rfl, rfl⟩, fun _ _ _ _ _ => rfl, fun a _ _ => rfl⟩
    rw [fX0_markQuarter_L16.eq_2, if_pos (by omega)]
  | m + 1, fu, c, v, h1, h2, h3, h4, h5, h6, h7 => by
    obtain ⟨k, rfl⟩ : ∃ k, fu = k + 1 := ⟨fu - 1, by omega⟩
    have ht := yTop_b (R := R) (al := al) (N := bs.length)
    have hlen : t.length + i + 1 = bs.length := by rw [hti, List.length_drop]; omega
    have hl0 := yLs_b (R := R) (al := al) (bs := bs) i
    have hl1 := yLs_b (R := R) (al := al) (bs := bs) (i + 1)
    have hlu := yLs_up (R := R) (al := al) (bs := bs) i
    have hcm : (c : Int) ≤ (i : Int) ∧ (c : Int) ≤ yTop R al bs.length := by omega
    obtain ⟨w1, w2⟩ := h4.2 c hcm.2
    have b1 := yW_b hR (al := al) t ((c : Int) + 1)
    have b2 := yW_b hR (al := al) t (c : Int)
    have b3 := yAc_b hR (al := al) (b := b) (c := (c : Int))
    have b4 := yAo_b hR (al := al) (b := b) (c := (c : Int))
    have e130 : max (v 130 (i : Int)) (v 132 (c : Int)) = yAc R al b (c : Int) := by rw [h5, w1]; rfl
    have e131 : max (v 131 (i : Int)) (v 133 (c : Int)) = yAo R al b (c : Int) := by rw [h6, w2]; rfl
    have er : v 135 (min ((c : Int) + 1) (yTop R al bs.length)) = yW R al t ((c : Int) + 1) := by
      by_cases d : (c : Int) + 1 ≤ yTop R al bs.length
      · rw [show min ((c : Int) + 1) (yTop R al bs.length) = ((c + 1 : Nat) : Int) by omega]
        exact h7 (c + 1) (by omega) (by omega) (by omega)
      · rw [show min ((c : Int) + 1) (yTop R al bs.length) = (c : Int) by omega, h7 c (Nat.le_refl _) (by omega) (by omega)]
        exact yW_top (N := (bs.length : Int)) t _ _ (by omega) (by omega) (by omega) (by omega)
    have eW : yW R al (b :: t) (c : Int) = max (yW R al t ((c : Int) + 1) + yAc R al b (c : Int)) (if yAo R al b (c : Int) = -1 then -1 else yW R al t (c : Int) + yAo R al b (c : Int)) := rfl
    have eV : yMv R al b t (c : Int) = if yW R al t ((c : Int) + 1) + yAc R al b (c : Int) < (if yAo R al b (c : Int) = -1 then -1 else yW R al t (c : Int) + yAo R al b (c : Int)) then 2 else if (if yAo R al b (c : Int) = -1 then -1 else yW R al t (c : Int) + yAo R al b (c : Int)) < yW R al t ((c : Int) + 1) + yAc R al b (c : Int) then 1 else 3 := rfl
    have hBb : -1 ≤ (if yAo R al b (c : Int) = -1 then -1 else yW R al t (c : Int) + yAo R al b (c : Int)) ∧ (if yAo R al b (c : Int) = -1 then -1 else yW R al t (c : Int) + yAo R al b (c : Int)) ≤ 1000000 := by split <;> omega
    rw [fX0_markQuarter_L16.eq_2, if_neg (by omega), zck_pos (by omega), zck_pos (by omega), zn_pos (by omega), h4.1, zck_pos (by omega), e130, er, zn_pos (by omega), zck_pos (by omega), zck_pos (by omega), e131, zck_pos (by omega), show yAc R al b (c : Int) + yW R al t ((c : Int) + 1) = yW R al t ((c : Int) + 1) + yAc R al b (c : Int) by omega]
    have eJ : (if yAo R al b (c : Int) ≠ -1 then zn (yAo R al b (c : Int) + v 135 (c : Int)) fun t10 => fX0_markQuarter_J90 (fX0_markQuarter_L16 k) v (i : Int) (min (i : Int) (yTop R al bs.length)) (c : Int) (yW R al t ((c : Int) + 1) + yAc R al b (c : Int)) t10 else fX0_markQuarter_J90 (fX0_markQuarter_L16 k) v (i : Int) (min (i : Int) (yTop R al bs.length)) (c : Int) (yW R al t ((c : Int) + 1) + yAc R al b (c : Int)) (-1)) = fX0_markQuarter_J90 (fX0_markQuarter_L16 k) v (i : Int) (min (i : Int) (yTop R al bs.length)) (c : Int) (yW R al t ((c : Int) + 1) + yAc R al b (c : Int)) (if yAo R al b (c : Int) = -1 then -1 else yW R al t (c : Int) + yAo R al b (c : Int)) := by
      by_cases d : yAo R al b (c : Int) = -1
      · rw [if_neg (by omega), if_pos d]
      · have hx : yLs R al bs (i + 1) ≤ (c : Int) := by
          rcases hlu with h | ⟨h, _, h8, h9⟩
          · omega
          · by_cases f : yLs R al bs i = (c : Int)
            · exfalso
              apply d
              show max (yOp R b) (yOp R (yWm R al (c : Int))) = -1
              rw [hbi, h8, ← f, h9]
              rfl
            · omega
        rw [if_pos d, if_neg d, h7 c (Nat.le_refl _) hx (by omega), zn_pos (by omega), show yAo R al b (c : Int) + yW R al t (c : Int) = yW R al t (c : Int) + yAo R al b (c : Int) by omega]
    rw [eJ]
    generalize (if yAo R al b (c : Int) = -1 then -1 else yW R al t (c : Int) + yAo R al b (c : Int)) = B at eW eV hBb ⊢
    unfold fX0_markQuarter_J90
    rw [zck_pos (by omega), zb_e]
    have n1 : ∀ a, a ≠ 135 → zst v 135 (c : Int) (yW R al (b :: t) (c : Int)) a = v a := fun a ha => by funext j; exact zst_na ha
    have mk1 : ∀ i' x : Nat, yMk (zst v 135 (c : Int) (yW R al (b :: t) (c : Int))) i' x = yMk v i' x := fun i' x => by
      unfold yMk
      rw [n1 136 (by decide)]
    obtain ⟨u, s1, s2, s3, s4⟩ := c_setMark (v := zst v 135 (c : Int) (yW R al (b :: t) (c : Int))) (i := i) (c := c) (m := yMv R al b t (c : Int)) (by omega) (by omega) yMv_lt
    have eM : (if yW R al t ((c : Int) + 1) + yAc R al b (c : Int) < B then fX0_markQuarter_J117 (fX0_markQuarter_L16 k) (zst v 135 (c : Int) (max (yW R al t ((c : Int) + 1) + yAc R al b (c : Int)) B)) (i : Int) (min (i : Int) (yTop R al bs.length)) (c : Int) (yW R al t ((c : Int) + 1) + yAc R al b (c : Int)) B 0 else fX0_markQuarter_J117 (fX0_markQuarter_L16 k) (zst v 135 (c : Int) (max (yW R al t ((c : Int) + 1) + yAc R al b (c : Int)) B)) (i : Int) (min (i : Int) (yTop R al bs.length)) (c : Int) (yW R al t ((c : Int) + 1) + yAc R al b (c : Int)) B 1) = fX0_markQuarter_L16 k u (i : Int) (min (i : Int) (yTop R al bs.length)) ((c + 1 : Nat) : Int) := by
      rw [← eW]
      unfold fX0_markQuarter_J117 fX0_markQuarter_J138
      rw [show zor 0 2 = ((2 : Nat) : Int) by decide, show zor 1 2 = ((3 : Nat) : Int) by decide]
      by_cases d : yW R al t ((c : Int) + 1) + yAc R al b (c : Int) < B
      · rw [if_pos d] at eV
        rw [if_pos d, if_neg (by omega)]
        rw [eV] at s1
        rw [s1, zcl_e, zn_pos (by omega), show (c : Int) + 1 = ((c + 1 : Nat) : Int) by omega]
      · rw [if_neg d] at eV
        rw [if_neg d]
        by_cases f : B < yW R al t ((c : Int) + 1) + yAc R al b (c : Int)
        · rw [if_pos f] at eV
          rw [if_pos f]
          rw [eV, show ((1 : Nat) : Int) = 1 from rfl] at s1
          rw [s1, zcl_e, zn_pos (by omega), show (c : Int) + 1 = ((c + 1 : Nat) : Int) by omega]
        · rw [if_neg f] at eV
          rw [if_neg f]
          rw [eV] at s1
          rw [s1, zcl_e, zn_pos (by omega), show (c : Int) + 1 = ((c + 1 : Nat) : Int) by omega]
    rw [eM]
    have nu : ∀ a, a ≠ 135 → a ≠ 136 → u a = v a := fun a a1 a2 => by rw [s4 a a2, n1 a a1]
    have u135 : ∀ j, u 135 j = if j = (c : Int) then yW R al (b :: t) (c : Int) else v 135 j := fun j => by rw [s4 135 (by decide), zst_if]
    obtain ⟨v', g1, g2, g3, g4, g5⟩ := mark_L (al := al) (bs := bs) hR hn hi hbi hti m k (c + 1) u (by omega) (by omega) (by omega) (by
      unfold yTw
      rw [nu 125 (by decide) (by decide), nu 132 (by decide) (by decide), nu 133 (by decide) (by decide)]
      exact h4) (by rw [nu 130 (by decide) (by decide)]; exact h5) (by rw [nu 131 (by decide) (by decide)]; exact h6) (fun x hx1 hx2 hx3 => by
      rw [u135, if_neg (by omega)]
      exact h7 x (by omega) hx2 hx3)
    refine ⟨v', g1, fun x hx1 hx2 => ?_, fun x hx => ?_, fun i' x a1 a2 a3 => by rw [g4 i' x a1 a2 a3, s3 i' x a1 a2 (Or.inl a3), mk1], fun a a1 a2 => by rw [g5 a a1 a2, nu a a1 a2]⟩
    · by_cases e : x = c
      · obtain ⟨y1, y2⟩ := g3 x (by omega)
        rw [y1, y2, e, u135, if_pos rfl]
        exact ⟨rfl, s2⟩
      · exact g2 x (by omega) hx2
    · obtain ⟨y1, y2⟩ := g3 x (by omega)
      rw [y1, y2, u135, if_neg (by omega), s3 i x (by omega) (by omega) (Or.inr (by omega)), mk1]
      exact ⟨rfl, rfl⟩
