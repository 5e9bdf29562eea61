/-! PURE: the reference's best way, and as they come. My own text. -/
theorem mmost_L {v : zHp} {R : Int → Int} (hR : zWR R) (h : v 139 = R) {b : Nat} (hb : b < 2 ^ 31) {i x2 o : Int} (hi : 0 ≤ i ∧ i < 680) (hv : v 150 i = (b : Int)) (hx : x2 = 0 ∨ x2 = 1) : ∀ (m fu p : Nat), p + m = (R 10).toNat → m < fu → fX12_mostOf_L6 fu v i x2 (yMost (fun p => b.testBit p && decide (R (11 + 5 * (p : Int) + 2) = x2)) (yH R) o p) (p : Int) = some (v, yMost (fun p => b.testBit p && decide (R (11 + 5 * (p : Int) + 2) = x2)) (yH R) o (R 10).toNat)
  | 0, fu, p, h1, h2 => by
    obtain ⟨k, rfl⟩ : ∃ k, fu = k + 1 := ⟨fu - 1, by omega⟩
    have hb := hR.2.2.1
    rw [fX12_mostOf_L6.eq_2, m_premiums, zcl_e, h, if_pos (by omega), show p = (R 10).toNat by omega]
  | m + 1, fu, p, h1, h2 => by
    obtain ⟨k, rfl⟩ : ∃ k, fu = k + 1 := ⟨fu - 1, by omega⟩
    have hb8 := hR.2.2.1
    have hp : (p : Int) < R 10 := by omega
    have hC := (hR.2.2.2 p hp).2.2.2.2.1
    have ih := mmost_L (o := o) hR h hb hi hv hx m k (p + 1) (by omega) (by omega)
    have e : yMost (fun p => b.testBit p && decide (R (11 + 5 * (p : Int) + 2) = x2)) (yH R) o (p + 1) = if (b.testBit p && decide (R (11 + 5 * (p : Int) + 2) = x2)) = true then max (yMost (fun p => b.testBit p && decide (R (11 + 5 * (p : Int) + 2) = x2)) (yH R) o p) (R (11 + 5 * (p : Int) + 1)) else yMost (fun p => b.testBit p && decide (R (11 + 5 * (p : Int) + 2) = x2)) (yH R) o p := rfl
    rw [e] at ih
    have eM : ∀ f : Int, 0 ≤ f ∧ f ≤ 4 → fX12_premiumIs v (p : Int) f = some (v, R (11 + 5 * (p : Int) + f)) := fun f hf => by rw [m_prem (by omega) hf, h]
    have e1 : (p : Int) + 1 = ((p + 1 : Nat) : Int) := by omega
    have eJ0 : ∀ x4 : Int, fX12_mostOf_J54 (fX12_mostOf_L6 k) v i x2 x4 (p : Int) = fX12_mostOf_L6 k v i x2 x4 ((p + 1 : Nat) : Int) := fun x4 => by
      unfold fX12_mostOf_J54 fX12_mostOf_J55
      rw [if_pos rfl, zn_pos (by omega), e1]
    have eJ1 : ∀ x4 : Int, fX12_mostOf_J55 (fX12_mostOf_L6 k) v i x2 x4 (p : Int) 1 = fX12_mostOf_L6 k v i x2 (max x4 (R (11 + 5 * (p : Int) + 1))) ((p + 1 : Nat) : Int) := fun x4 => by
      unfold fX12_mostOf_J55
      rw [if_neg (by decide), eM 1 (by decide), zcl_e, eM 1 (by decide), zcl_e, zn_pos (by omega), zn_pos (by omega), e1]
      by_cases c : R (11 + 5 * (p : Int) + 1) ≤ x4
      · rw [if_pos c, show max x4 (R (11 + 5 * (p : Int) + 1)) = x4 by omega]
      · rw [if_neg c, show max x4 (R (11 + 5 * (p : Int) + 1)) = R (11 + 5 * (p : Int) + 1) by omega]
    rw [fX12_mostOf_L6.eq_2, m_premiums, zcl_e, h, if_neg (by omega), zck_pos hi, hv, zbit_n (by omega) hb, eM 2 (by decide), zcl_e, eJ0]
    unfold fX12_mostOf_J46
    rw [eJ0, eJ1, ← ih]
    cases a : b.testBit p with
    | false => rw [if_pos (by decide), Bool.false_and, if_neg (by decide : ¬ (false = true))]
    | true =>
      rw [if_neg (by decide)]
      by_cases c : R (11 + 5 * (p : Int) + 2) = x2
      · rw [decide_eq_true c, Bool.and_self, if_pos rfl]
        rcases hx with hx | hx
        · rw [if_pos (by omega), if_neg (by omega)]
        · rw [if_neg (by omega), if_neg (by omega)]
      · rw [decide_eq_false c, Bool.and_false, if_neg (by decide : ¬ (false = true))]
        by_cases d : R (11 + 5 * (p : Int) + 2) = 1
        · rw [if_neg (by omega), if_pos (by omega)]
        · rw [if_pos d, if_pos (by omega)]
theorem m_mostOf {v : zHp} {R : Int → Int} (hR : zWR R) (h : v 139 = R) {b : Nat} (hb : b < 2 ^ 31) {i : Int} (hi : 0 ≤ i ∧ i < 680) (hv : v 150 i = (b : Int)) : fX12_mostOf v i 1 0 = some (v, yOc R b) ∧ fX12_mostOf v i 0 (-1) = some (v, yOp R b) := by
  have h8 := hR.2.2.1
  have g1 := mmost_L (x2 := 1) (o := 0) hR h hb hi hv (Or.inr rfl) (R 10).toNat zFU 0 (by omega) (zFU_lt (by omega))
  have g2 := mmost_L (x2 := 0) (o := -1) hR h hb hi hv (Or.inl rfl) (R 10).toNat zFU 0 (by omega) (zFU_lt (by omega))
  rw [show yMost (fun p => b.testBit p && decide (R (11 + 5 * (p : Int) + 2) = 1)) (yH R) 0 0 = 0 from rfl, show ((0 : Nat) : Int) = 0 from rfl] at g1
  rw [show yMost (fun p => b.testBit p && decide (R (11 + 5 * (p : Int) + 2) = 0)) (yH R) (-1) 0 = -1 from rfl, show ((0 : Nat) : Int) = 0 from rfl] at g2
  unfold fX12_mostOf
  rw [g1, g2]
  exact ⟨rfl, rfl⟩
/-! the week premiums -/
theorem wkp_in {R : Int → Int} (hR : zWR R) {c : Int} (hc : 0 ≤ c ∧ c < 680) : ∀ (m fu p : Nat) (v : zHp), p + m = (R 10).toNat → m < fu → v 139 = R → v 155 c = yMost (fun p => zWb R c p && decide (R (11 + 5 * (p : Int) + 2) = 1)) (yH R) 0 p → v 156 c = yMost (fun p => zWb R c p && decide (R (11 + 5 * (p : Int) + 2) = 0)) (yH R) (-1) p → ∃ v', fX12_laysWeekPremiums_L25 fu v c (p : Int) = some (v', 0) ∧ v' 155 c = yMost (fun p => zWb R c p && decide (R (11 + 5 * (p : Int) + 2) = 1)) (yH R) 0 (R 10).toNat ∧ v' 156 c = yMost (fun p => zWb R c p && decide (R (11 + 5 * (p : Int) + 2) = 0)) (yH R) (-1) (R 10).toNat ∧ (∀ a j, j ≠ c → v' a j = v a j) ∧ ∀ a, a ≠ 155 → a ≠ 156 → v' a = v a
  | 0, fu, p, v, h1, h2, h3, h4, h5 => by
    obtain ⟨k, rfl⟩ : ∃ k, fu = k + 1 := ⟨fu - 1, by omega⟩
    have h8 := hR.2.2.1
    have hp : p = (R 10).toNat := by omega
    refine ⟨v, ?_, by rw [← hp]; exact h4, by rw [← hp]; exact h5, fun a j _ => rfl, fun a _ _ => rfl⟩
    rw [fX12_laysWeekPremiums_L25.eq_2, m_premiums, zcl_e, h3, if_pos (by omega)]
  | m + 1, fu, p, v, h1, h2, h3, h4, h5 => by
    obtain ⟨k, rfl⟩ : ∃ k, fu = k + 1 := ⟨fu - 1, by omega⟩
    have h8 := hR.2.2.1
    have hp : (p : Int) < R 10 := by omega
    have hC := (hR.2.2.2 p hp).2.2.2.2.1
    have eM : ∀ f : Int, 0 ≤ f ∧ f ≤ 4 → fX12_premiumIs v (p : Int) f = some (v, R (11 + 5 * (p : Int) + f)) := fun f hf => by rw [m_prem (by omega) hf, h3]
    have e1 : (p : Int) + 1 = ((p + 1 : Nat) : Int) := by omega
    have u1 : yMost (fun p => zWb R c p && decide (R (11 + 5 * (p : Int) + 2) = 1)) (yH R) 0 (p + 1) = if (zWb R c p && decide (R (11 + 5 * (p : Int) + 2) = 1)) = true then max (yMost (fun p => zWb R c p && decide (R (11 + 5 * (p : Int) + 2) = 1)) (yH R) 0 p) (R (11 + 5 * (p : Int) + 1)) else yMost (fun p => zWb R c p && decide (R (11 + 5 * (p : Int) + 2) = 1)) (yH R) 0 p := rfl
    have u2 : yMost (fun p => zWb R c p && decide (R (11 + 5 * (p : Int) + 2) = 0)) (yH R) (-1) (p + 1) = if (zWb R c p && decide (R (11 + 5 * (p : Int) + 2) = 0)) = true then max (yMost (fun p => zWb R c p && decide (R (11 + 5 * (p : Int) + 2) = 0)) (yH R) (-1) p) (R (11 + 5 * (p : Int) + 1)) else yMost (fun p => zWb R c p && decide (R (11 + 5 * (p : Int) + 2) = 0)) (yH R) (-1) p := rfl
    have skip : zWb R c p = false → ∃ v', fX12_laysWeekPremiums_L25 k v c ((p + 1 : Nat) : Int) = some (v', 0) ∧ v' 155 c = yMost (fun p => zWb R c p && decide (R (11 + 5 * (p : Int) + 2) = 1)) (yH R) 0 (R 10).toNat ∧ v' 156 c = yMost (fun p => zWb R c p && decide (R (11 + 5 * (p : Int) + 2) = 0)) (yH R) (-1) (R 10).toNat ∧ (∀ a j, j ≠ c → v' a j = v a j) ∧ ∀ a, a ≠ 155 → a ≠ 156 → v' a = v a := fun hw => wkp_in hR hc m k (p + 1) v (by omega) (by omega) h3 (by rw [u1, hw, Bool.false_and, if_neg (by decide : ¬ (false = true))]; exact h4) (by rw [u2, hw, Bool.false_and, if_neg (by decide : ¬ (false = true))]; exact h5)
    rw [fX12_laysWeekPremiums_L25.eq_2, m_premiums, zcl_e, h3, if_neg (by omega), eM 0 (by decide), zcl_e, zn_pos (by omega), eM 3 (by decide), zcl_e, zn_pos (by omega), eM 1 (by decide), zcl_e, eM 2 (by decide), zcl_e, e1]
    by_cases a : R (11 + 5 * (p : Int) + 0) = 1
    · rw [if_neg (by omega)]
      by_cases b : R (11 + 5 * (p : Int) + 3) ≤ c
      · have hw : zWb R c p = true := by unfold zWb; rw [decide_eq_true a, decide_eq_true b]; rfl
        rw [if_neg (by omega)]
        unfold fX12_laysWeekPremiums_J76 fX12_adds
        rcases hC with hC | hC
        · rw [if_pos (by omega), if_pos rfl, zck_pos hc, zck_pos hc, zck_pos hc, zck_pos hc, zb_e, zb_e]
          have go : ∃ v', fX12_laysWeekPremiums_L25 k (zst v 156 c (max (v 156 c) (R (11 + 5 * (p : Int) + 1)))) c ((p + 1 : Nat) : Int) = some (v', 0) ∧ v' 155 c = yMost (fun p => zWb R c p && decide (R (11 + 5 * (p : Int) + 2) = 1)) (yH R) 0 (R 10).toNat ∧ v' 156 c = yMost (fun p => zWb R c p && decide (R (11 + 5 * (p : Int) + 2) = 0)) (yH R) (-1) (R 10).toNat ∧ (∀ a j, j ≠ c → v' a j = zst v 156 c (max (v 156 c) (R (11 + 5 * (p : Int) + 1))) a j) ∧ ∀ a, a ≠ 155 → a ≠ 156 → v' a = zst v 156 c (max (v 156 c) (R (11 + 5 * (p : Int) + 1))) a := wkp_in hR hc m k (p + 1) _ (by omega) (by omega) (by rw [← h3]; funext j; exact zst_na (by decide)) (by rw [zst_na (by decide), u1, hw, decide_eq_false (by omega), Bool.and_false, if_neg (by decide : ¬ (false = true))]; exact h4) (by rw [zst_eq, u2, hw, decide_eq_true hC, Bool.and_self, if_pos rfl, h5])
          obtain ⟨v', g1, g2, g3, g4, g5⟩ := go
          refine ⟨v', ?_, g2, g3, fun a j hj => by rw [g4 a j hj, zst_nj hj], fun a a1 a2 => by rw [g5 a a1 a2]; funext j; exact zst_na a2⟩
          rw [← g1]
          by_cases d : R (11 + 5 * (p : Int) + 1) ≤ v 156 c
          · rw [if_pos d, zcl_e, zn_pos (by omega), e1, show max (v 156 c) (R (11 + 5 * (p : Int) + 1)) = v 156 c by omega]
          · rw [if_neg d, zcl_e, zn_pos (by omega), e1, show max (v 156 c) (R (11 + 5 * (p : Int) + 1)) = R (11 + 5 * (p : Int) + 1) by omega]
        · rw [if_neg (by omega), if_neg (by decide), zck_pos hc, zck_pos hc, zck_pos hc, zck_pos hc, zb_e, zb_e]
          have go : ∃ v', fX12_laysWeekPremiums_L25 k (zst v 155 c (max (v 155 c) (R (11 + 5 * (p : Int) + 1)))) c ((p + 1 : Nat) : Int) = some (v', 0) ∧ v' 155 c = yMost (fun p => zWb R c p && decide (R (11 + 5 * (p : Int) + 2) = 1)) (yH R) 0 (R 10).toNat ∧ v' 156 c = yMost (fun p => zWb R c p && decide (R (11 + 5 * (p : Int) + 2) = 0)) (yH R) (-1) (R 10).toNat ∧ (∀ a j, j ≠ c → v' a j = zst v 155 c (max (v 155 c) (R (11 + 5 * (p : Int) + 1))) a j) ∧ ∀ a, a ≠ 155 → a ≠ 156 → v' a = zst v 155 c (max (v 155 c) (R (11 + 5 * (p : Int) + 1))) a := wkp_in hR hc m k (p + 1) _ (by omega) (by omega) (by rw [← h3]; funext j; exact zst_na (by decide)) (by rw [zst_eq, u1, hw, decide_eq_true hC, Bool.and_self, if_pos rfl, h4]) (by rw [zst_na (by decide), u2, hw, decide_eq_false (by omega), Bool.and_false, if_neg (by decide : ¬ (false = true))]; exact h5)
          obtain ⟨v', g1, g2, g3, g4, g5⟩ := go
          refine ⟨v', ?_, g2, g3, fun a j hj => by rw [g4 a j hj, zst_nj hj], fun a a1 a2 => by rw [g5 a a1 a2]; funext j; exact zst_na a1⟩
          rw [← g1]
          by_cases d : R (11 + 5 * (p : Int) + 1) ≤ v 155 c
          · rw [if_pos d, zcl_e, zn_pos (by omega), e1, show max (v 155 c) (R (11 + 5 * (p : Int) + 1)) = v 155 c by omega]
          · rw [if_neg d, zcl_e, zn_pos (by omega), e1, show max (v 155 c) (R (11 + 5 * (p : Int) + 1)) = R (11 + 5 * (p : Int) + 1) by omega]
      · rw [if_pos (by omega)]
        exact skip (by unfold zWb; rw [decide_eq_false b, Bool.and_false])
    · rw [if_pos a]
      exact skip (by unfold zWb; rw [decide_eq_false a, Bool.false_and])
theorem yWm_255 {R : Int → Int} (hR : zWR R) {c : Int} {p : Nat} (hp : p < (R 10).toNat) : (yWm R 255 c).testBit p = zWb R c p := by
  have h8 := hR.2.2.1
  have : ∀ i : Nat, i < 8 → Nat.testBit 255 i = true := by decide
  unfold yWm
  rw [Nat.testBit_and, zmk_bit, decide_eq_true hp, Bool.true_and, this p (by omega), Bool.and_true]
theorem wkp_out {R : Int → Int} (hR : zWR R) : ∀ (m fu c : Nat) (v : zHp), c + m = 680 → m < fu → v 139 = R → (∀ x : Nat, x < c → v 155 (x : Int) = yOc R (yWm R 255 (x : Int)) ∧ v 156 (x : Int) = yOp R (yWm R 255 (x : Int))) → ∃ v', fX12_laysWeekPremiums_L2 fu v (c : Int) = some (v', 0) ∧ (∀ x : Nat, x < 680 → v' 155 (x : Int) = yOc R (yWm R 255 (x : Int)) ∧ v' 156 (x : Int) = yOp R (yWm R 255 (x : Int))) ∧ ∀ a, a ≠ 155 → a ≠ 156 → v' a = v a
  | 0, fu, c, v, h1, h2, h3, h4 => by
    obtain ⟨k, rfl⟩ : ∃ k, fu = k + 1 := ⟨fu - 1, by omega⟩
    refine ⟨v, ?_, fun x hx => h4 x (by omega), fun a _ _ => rfl⟩
    rw [fX12_laysWeekPremiums_L2.eq_2, if_pos (by omega)]
  | m + 1, fu, c, v, h1, h2, h3, h4 => by
    obtain ⟨k, rfl⟩ : ∃ k, fu = k + 1 := ⟨fu - 1, by omega⟩
    have h8 := hR.2.2.1
    have n : ∀ a, a ≠ 155 → a ≠ 156 → zst (zst v 155 (c : Int) 0) 156 (c : Int) (-1) a = v a := fun a a1 a2 => by
      funext j
      rw [zst_na a2, zst_na a1]
    obtain ⟨u, g1, g2, g3, g4, g5⟩ := wkp_in hR (c := (c : Int)) (by omega) (R 10).toNat zFU 0 (zst (zst v 155 (c : Int) 0) 156 (c : Int) (-1)) (by omega) (zFU_lt (by omega)) (by rw [n 139 (by decide) (by decide)]; exact h3) (by rw [zst_na (by decide), zst_eq]; rfl) (by rw [zst_eq]; rfl)
    rw [show ((0 : Nat) : Int) = 0 from rfl] at g1
    rw [fX12_laysWeekPremiums_L2.eq_2, if_neg (by omega), zck_pos (by omega), zb_e, zck_pos (by omega), zb_e, g1, zl_e, zn_pos (by omega), show (c : Int) + 1 = ((c + 1 : Nat) : Int) by omega]
    obtain ⟨v', q1, q2, q3⟩ := wkp_out hR m k (c + 1) u (by omega) (by omega) (by rw [g5 139 (by decide) (by decide), n 139 (by decide) (by decide)]; exact h3) (fun x hx => by
      by_cases e : x = c
      · rw [e, g2, g3]
        exact ⟨yMost_cong _ fun p hp => by rw [yWm_255 hR hp], yMost_cong _ fun p hp => by rw [yWm_255 hR hp]⟩
      · rw [g4 155 x (by omega), g4 156 x (by omega), zst_na (by decide), zst_nj (by omega), zst_nj (by omega), zst_na (by decide)]
        exact h4 x (by omega))
    exact ⟨v', q1, q2, fun a a1 a2 => by rw [q3 a a1 a2, g5 a a1 a2, n a a1 a2]⟩
/-! the table of what can be won -/
theorem dp_c {α : Type} {l : List α} {d : α} {i : Nat} (h : i < l.length) : l.drop i = l.getD i d :: l.drop (i + 1) := by
  rw [List.drop_eq_getElem_cons h, List.getD_eq_getElem?_getD, List.getElem?_eq_getElem h]
  rfl
theorem best_0 {n : Nat} (hn : n ≤ 676) : ∀ (m fu c : Nat) (v : zHp), c + m = n + 1 → m < fu → v 137 23 = (n : Int) → ∃ v', fX12_laysBest_L6 fu v (c : Int) = some (v', 0) ∧ (∀ j : Int, v' 154 j = if 680 * (n : Int) + (c : Int) ≤ j ∧ j ≤ 680 * (n : Int) + (n : Int) then 0 else v 154 j) ∧ ∀ a, a ≠ 154 → v' a = v a
  | 0, fu, c, v, h1, h2, h3 => by
    obtain ⟨k, rfl⟩ : ∃ k, fu = k + 1 := ⟨fu - 1, by omega⟩
    refine ⟨v, ?_, fun j => by rw [if_neg (by omega)], fun a _ => rfl⟩
    rw [fX12_laysBest_L6.eq_2, if_pos (by omega)]
  | m + 1, fu, c, v, h1, h2, h3 => by
    obtain ⟨k, rfl⟩ : ∃ k, fu = k + 1 := ⟨fu - 1, by omega⟩
    rw [fX12_laysBest_L6.eq_2, if_neg (by omega), h3, zck_pos (by omega), zb_e, zn_pos (by omega), show (c : Int) + 1 = ((c + 1 : Nat) : Int) by omega]
    obtain ⟨v', g1, g2, g3⟩ := best_0 hn m k (c + 1) (zst v 154 (680 * (n : Int) + (c : Int)) 0) (by omega) (by omega) (by rw [zst_na (by decide)]; exact h3)
    refine ⟨v', g1, fun j => ?_, fun a ha => by rw [g3 a ha]; funext j; exact zst_na ha⟩
    rw [g2 j, zst_if]
    by_cases c1 : 680 * (n : Int) + ((c + 1 : Nat) : Int) ≤ j ∧ j ≤ 680 * (n : Int) + (n : Int)
    · rw [if_pos c1, if_pos (by omega)]
    · rw [if_neg c1]
      by_cases c2 : j = 680 * (n : Int) + (c : Int)
      · rw [if_pos c2, if_pos (by omega)]
      · rw [if_neg c2, if_neg (by omega)]
/-- one row of the table -/
theorem best_1 {R : Int → Int} (hR : zWR R) {n i b : Nat} {t : List Nat} (hn : n ≤ 676) (hi : i < n) (ht : t.length + i + 1 = n) : ∀ (m fu c : Nat) (v : zHp), c + m = i + 1 → m < fu → (∀ x : Nat, x < 680 → v 155 (x : Int) = yOc R (yWm R 255 (x : Int)) ∧ v 156 (x : Int) = yOp R (yWm R 255 (x : Int))) → (∀ x : Nat, x ≤ i + 1 → v 154 (680 * ((i : Int) + 1) + (x : Int)) = 100 * (t.length : Int) + yW R 255 t (x : Int)) → ∃ v', fX12_laysBest_L75 fu v (i : Int) (yOc R b) (yOp R b) (680 * ((i : Int) + 1)) (c : Int) = some (v', 0) ∧ (∀ x : Nat, c ≤ x → x ≤ i → v' 154 (680 * (i : Int) + (x : Int)) = 100 * ((t.length : Int) + 1) + yW R 255 (b :: t) (x : Int)) ∧ (∀ j : Int, (j < 680 * (i : Int) + (c : Int) ∨ 680 * (i : Int) + (i : Int) < j) → v' 154 j = v 154 j) ∧ ∀ a, a ≠ 154 → v' a = v a
  | 0, fu, c, v, h1, h2, h3, h4 => by
    obtain ⟨k, rfl⟩ : ∃ k, fu = k + 1 := ⟨fu - 1, by omega⟩
    refine ⟨v, ?_, fun x _ _ => by omega, fun j _ => rfl, fun a _ => rfl⟩
    rw [fX12_laysBest_L75.eq_2, if_pos (by omega)]
  | m + 1, fu, c, v, h1, h2, h3, h4 => by
    obtain ⟨k, rfl⟩ : ∃ k, fu = k + 1 := ⟨fu - 1, by omega⟩
    obtain ⟨w1, w2⟩ := h3 c (by omega)
    have q1 := h4 c (by omega)
    have q2 := h4 (c + 1) (by omega)
    rw [show 680 * ((i : Int) + 1) + ((c + 1 : Nat) : Int) = 680 * ((i : Int) + 1) + (c : Int) + 1 by omega, show ((c + 1 : Nat) : Int) = (c : Int) + 1 by omega] at q2
    have b1 := yW_b hR (al := 255) t (c : Int)
    have b2 := yW_b hR (al := 255) t ((c : Int) + 1)
    have b3 := yAc_b hR (al := 255) (b := b) (c := (c : Int))
    have b4 := yAo_b hR (al := 255) (b := b) (c := (c : Int))
    have eW : yW R 255 (b :: t) (c : Int) = max (yW R 255 t ((c : Int) + 1) + yAc R 255 b (c : Int)) (if yAo R 255 b (c : Int) = -1 then -1 else yW R 255 t (c : Int) + yAo R 255 b (c : Int)) := rfl
    obtain ⟨v', g1, g2, g3, g4⟩ := best_1 (b := b) hR hn hi ht m k (c + 1) (zst v 154 (680 * (i : Int) + (c : Int)) (100 * ((t.length : Int) + 1) + yW R 255 (b :: t) (c : Int))) (by omega) (by omega) (fun x hx => by rw [zst_na (by decide), zst_na (by decide)]; exact h3 x hx) (fun x hx => by rw [zst_nj (by omega)]; exact h4 x hx)
    refine ⟨v', ?_, fun x hx1 hx2 => ?_, fun j hj => by rw [g3 j (by omega), zst_nj (by omega)], fun a ha => by rw [g4 a ha]; funext j; exact zst_na ha⟩
    · rw [← g1, fX12_laysBest_L75.eq_2, if_neg (by omega), zck_pos (by omega), zck_pos (by omega), zck_pos (by omega), w1, q2, zn_pos (by omega)]
      have fin : fX12_laysBest_J118 (fX12_laysBest_L75 k) v (i : Int) (yOc R b) (yOp R b) (680 * ((i : Int) + 1)) (c : Int) (100 + (100 * (t.length : Int) + yW R 255 t ((c : Int) + 1))) (yAc R 255 b (c : Int)) = fX12_laysBest_L75 k (zst v 154 (680 * (i : Int) + (c : Int)) (100 * ((t.length : Int) + 1) + yW R 255 (b :: t) (c : Int))) (i : Int) (yOc R b) (yOp R b) (680 * ((i : Int) + 1)) ((c + 1 : Nat) : Int) := by
        unfold fX12_laysBest_J118
        rw [zn_pos (by omega), zck_pos (by omega), zck_pos (by omega), w2]
        have eJ : (if yOp R (yWm R 255 (c : Int)) ≤ yOp R b then fX12_laysBest_J143 (fX12_laysBest_L75 k) v (i : Int) (yOc R b) (yOp R b) (680 * ((i : Int) + 1)) (c : Int) (100 + (100 * (t.length : Int) + yW R 255 t ((c : Int) + 1)) + yAc R 255 b (c : Int)) (yOp R b) else fX12_laysBest_J143 (fX12_laysBest_L75 k) v (i : Int) (yOc R b) (yOp R b) (680 * ((i : Int) + 1)) (c : Int) (100 + (100 * (t.length : Int) + yW R 255 t ((c : Int) + 1)) + yAc R 255 b (c : Int)) (yOp R (yWm R 255 (c : Int)))) = fX12_laysBest_J143 (fX12_laysBest_L75 k) v (i : Int) (yOc R b) (yOp R b) (680 * ((i : Int) + 1)) (c : Int) (100 + (100 * (t.length : Int) + yW R 255 t ((c : Int) + 1)) + yAc R 255 b (c : Int)) (yAo R 255 b (c : Int)) := by
          have e : yAo R 255 b (c : Int) = max (yOp R b) (yOp R (yWm R 255 (c : Int))) := rfl
          by_cases d : yOp R (yWm R 255 (c : Int)) ≤ yOp R b
          · rw [if_pos d, e, show max (yOp R b) (yOp R (yWm R 255 (c : Int))) = yOp R b by omega]
          · rw [if_neg d, e, show max (yOp R b) (yOp R (yWm R 255 (c : Int))) = yOp R (yWm R 255 (c : Int)) by omega]
        rw [eJ]
        unfold fX12_laysBest_J143
        have eK : ∀ s : Int, 0 ≤ s → s ≤ 1000000 → max (100 + (100 * (t.length : Int) + yW R 255 t ((c : Int) + 1)) + yAc R 255 b (c : Int)) s = 100 * ((t.length : Int) + 1) + yW R 255 (b :: t) (c : Int) → fX12_laysBest_J171 (fX12_laysBest_L75 k) v (i : Int) (yOc R b) (yOp R b) (680 * ((i : Int) + 1)) (c : Int) (100 + (100 * (t.length : Int) + yW R 255 t ((c : Int) + 1)) + yAc R 255 b (c : Int)) s = fX12_laysBest_L75 k (zst v 154 (680 * (i : Int) + (c : Int)) (100 * ((t.length : Int) + 1) + yW R 255 (b :: t) (c : Int))) (i : Int) (yOc R b) (yOp R b) (680 * ((i : Int) + 1)) ((c + 1 : Nat) : Int) := fun s s1 s2 s3 => by
          unfold fX12_laysBest_J171
          rw [zck_pos (by omega), zb_e, zn_pos (by omega), zck_pos (by omega), zb_e, zn_pos (by omega), show ((c + 1 : Nat) : Int) = (c : Int) + 1 by omega, ← s3]
          by_cases d : s ≤ 100 + (100 * (t.length : Int) + yW R 255 t ((c : Int) + 1)) + yAc R 255 b (c : Int)
          · rw [if_pos d, show max (100 + (100 * (t.length : Int) + yW R 255 t ((c : Int) + 1)) + yAc R 255 b (c : Int)) s = 100 + (100 * (t.length : Int) + yW R 255 t ((c : Int) + 1)) + yAc R 255 b (c : Int) by omega]
          · rw [if_neg d, show max (100 + (100 * (t.length : Int) + yW R 255 t ((c : Int) + 1)) + yAc R 255 b (c : Int)) s = s by omega]
        by_cases d : yAo R 255 b (c : Int) = -1
        · rw [if_neg (by omega)]
          rw [if_pos d] at eW
          exact eK 0 (by omega) (by omega) (by omega)
        · rw [if_pos d, zck_pos (by omega), q1, zn_pos (by omega)]
          rw [if_neg d] at eW
          exact eK _ (by omega) (by omega) (by omega)
      have e : yAc R 255 b (c : Int) = max (yOc R b) (yOc R (yWm R 255 (c : Int))) := rfl
      by_cases d : yOc R (yWm R 255 (c : Int)) ≤ yOc R b
      · rw [if_pos d, show yOc R b = yAc R 255 b (c : Int) by omega]
        rw [show yOc R b = yAc R 255 b (c : Int) by omega] at fin
        exact fin
      · rw [if_neg d, zn_pos (by omega), show yOc R (yWm R 255 (c : Int)) = yAc R 255 b (c : Int) by omega]
        exact fin
    · by_cases e : x = c
      · rw [e, g3 _ (by omega), zst_eq]
      · exact g2 x (by omega) hx2
