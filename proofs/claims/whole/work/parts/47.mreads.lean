/-! PURE: the reference's table whole; it reads the best way; as they come. My own text. -/
/-- a list of bits as they should be -/
def yOk (R : Int → Int) (bs : List Nat) : Prop := ∀ i : Nat, i < bs.length → bs.getD i 0 < 2 ^ 31 ∧ ∀ p : Nat, p < (R 10).toNat → R (11 + 5 * (p : Int) + 0) = 1 → (bs.getD i 0).testBit p = false
/-- the table -/
def yTb (R : Int → Int) (bs : List Nat) (i : Nat) (v : zHp) : Prop := ∀ j : Nat, i ≤ j → j ≤ bs.length → ∀ x : Nat, x ≤ j → v 154 (680 * (j : Int) + (x : Int)) = 100 * ((bs.length : Int) - (j : Int)) + yW R 255 (bs.drop j) (x : Int)
theorem best_2 {R : Int → Int} (hR : zWR R) {bs : List Nat} (hb : yOk R bs) (hn : bs.length ≤ 676) : ∀ (i fu : Nat) (v : zHp), i ≤ bs.length → i < fu → v 139 = R → (∀ j : Nat, j < bs.length → v 150 (j : Int) = ((bs.getD j 0 : Nat) : Int)) → (∀ x : Nat, x < 680 → v 155 (x : Int) = yOc R (yWm R 255 (x : Int)) ∧ v 156 (x : Int) = yOp R (yWm R 255 (x : Int))) → yTb R bs i v → ∃ v', fX12_laysBest_L43 fu v ((i : Int) - 1) = some (v', 0) ∧ yTb R bs 0 v' ∧ ∀ a, a ≠ 154 → v' a = v a
  | 0, fu, v, h1, h2, h3, h4, h5, h6 => by
    obtain ⟨k, rfl⟩ : ∃ k, fu = k + 1 := ⟨fu - 1, by omega⟩
    refine ⟨v, ?_, h6, fun a _ => rfl⟩
    rw [fX12_laysBest_L43.eq_2, if_pos (by omega)]
  | i + 1, fu, v, h1, h2, h3, h4, h5, h6 => by
    obtain ⟨k, rfl⟩ : ∃ k, fu = k + 1 := ⟨fu - 1, by omega⟩
    have hi : i < bs.length := by omega
    obtain ⟨o1, o2⟩ := m_mostOf hR h3 (hb i hi).1 (i := (i : Int)) (by omega) (h4 i hi)
    have hl : (bs.drop (i + 1)).length + i + 1 = bs.length := by rw [List.length_drop]; omega
    obtain ⟨u, g1, g2, g3, g4⟩ := best_1 (b := bs.getD i 0) (t := bs.drop (i + 1)) hR hn hi hl (i + 1) zFU 0 v (by omega) (zFU_lt (by omega)) h5 (fun x hx => by
      have := h6 (i + 1) (Nat.le_refl _) (by omega) x hx
      rw [show ((i + 1 : Nat) : Int) = (i : Int) + 1 by omega] at this
      rw [this]
      omega)
    rw [show ((0 : Nat) : Int) = 0 from rfl] at g1
    rw [show ((i + 1 : Nat) : Int) - 1 = (i : Int) by omega, fX12_laysBest_L43.eq_2, if_neg (by omega), o1, zcl_e, o2, zcl_e, zn_pos (by omega), g1, zl_e, zn_pos (by omega), show (i : Int) + -1 = (i : Int) - 1 by omega]
    obtain ⟨v', q1, q2, q3⟩ := best_2 hR hb hn i k u (by omega) (by omega) (by rw [g4 139 (by decide)]; exact h3) (by rw [g4 150 (by decide)]; exact h4) (by rw [g4 155 (by decide), g4 156 (by decide)]; exact h5) (fun j hj1 hj2 x hx => by
      by_cases e : j = i
      · rw [e]
        rw [e] at hx
        rw [g2 x (Nat.zero_le _) hx, dp_c (d := 0) hi]
        omega
      · rw [g3 _ (by omega)]
        exact h6 j (by omega) hj2 x hx)
    exact ⟨v', q1, q2, fun a ha => by rw [q3 a ha, g4 a ha]⟩
theorem m_laysBest {R : Int → Int} (hR : zWR R) {bs : List Nat} (hb : yOk R bs) (hn : bs.length ≤ 676) {v : zHp} (h3 : v 139 = R) (h4 : ∀ j : Nat, j < bs.length → v 150 (j : Int) = ((bs.getD j 0 : Nat) : Int)) (h5 : v 137 23 = (bs.length : Int)) : ∃ v', fX12_laysBest v = some (v', 0) ∧ yTb R bs 0 v' ∧ ∀ a, a ≠ 154 → a ≠ 155 → a ≠ 156 → v' a = v a := by
  obtain ⟨u, g1, g2, g3⟩ := wkp_out hR 680 zFU 0 v rfl (zFU_lt (by decide)) h3 (fun x hx => absurd hx (Nat.not_lt_zero _))
  rw [show ((0 : Nat) : Int) = 0 from rfl] at g1
  have e1 : fX12_laysWeekPremiums v = some (u, 0) := by
    unfold fX12_laysWeekPremiums
    rw [g1]
    rfl
  obtain ⟨x, q1, q2, q3⟩ := best_0 hn (bs.length + 1) zFU 0 u (by omega) (zFU_lt (by omega)) (by rw [g3 137 (by decide) (by decide)]; exact h5)
  rw [show ((0 : Nat) : Int) = 0 from rfl] at q1
  obtain ⟨v', w1, w2, w3⟩ := best_2 hR hb hn bs.length zFU x (Nat.le_refl _) (zFU_lt (by omega)) (by rw [q3 139 (by decide), g3 139 (by decide) (by decide)]; exact h3) (by rw [q3 150 (by decide), g3 150 (by decide) (by decide)]; exact h4) (by rw [q3 155 (by decide), q3 156 (by decide)]; exact g2) (fun j h1 h2 y hy => by
    have e : j = bs.length := by omega
    rw [e] at hy ⊢
    rw [q2, if_pos (by omega), List.drop_length]
    show (0 : Int) = _ + 0
    omega)
  refine ⟨v', ?_, w2, fun a a1 a2 a3 => by rw [w3 a a1, q3 a a1, g3 a a2 a3]⟩
  unfold fX12_laysBest
  rw [e1, zcl_e, q1, zl_e, q3 137 (by decide), g3 137 (by decide) (by decide), h5, zn_pos (by omega), w1]
  rfl
/-! it reads the best way -/
theorem m_canBe {R : Int → Int} (hR : zWR R) {v : zHp} (h3 : v 139 = R) {b : Nat} (hb : b < 2 ^ 31) (hk : ∀ p : Nat, p < (R 10).toNat → R (11 + 5 * (p : Int) + 0) = 1 → b.testBit p = false) {i c : Int} (hi : 0 ≤ i ∧ i < 680) (hv : v 150 i = (b : Int)) {p : Nat} (hp : p < (R 10).toNat) : fX12_canBe v i (p : Int) c = some (v, if (b ||| yWm R 255 c).testBit p then 1 else 0) := by
  have h8 := hR.2.2.1
  unfold fX12_canBe
  rw [m_prem (by omega) (by decide), zcl_e, h3, Nat.testBit_or, yWm_255 hR hp]
  unfold zWb
  by_cases a : R (11 + 5 * (p : Int) + 0) = 1
  · rw [if_neg (by omega), m_prem (by omega) (by decide), zcl_e, h3, hk p hp a, decide_eq_true a, Bool.true_and, Bool.false_or]
    by_cases d : R (11 + 5 * (p : Int) + 3) ≤ c
    · rw [if_neg (by omega), decide_eq_true d]
      rfl
    · rw [if_pos (by omega), decide_eq_false d]
      rfl
  · rw [if_pos a, zck_pos hi, hv, zbit_n (by omega) hb, decide_eq_false a, Bool.false_and, Bool.or_false]
    cases b.testBit p with
    | true => rw [if_neg (by decide)]; rfl
    | false => rw [if_pos (by decide)]; rfl
theorem reads_in {R : Int → Int} (hR : zWR R) {v : zHp} (h3 : v 139 = R) {b : Nat} (hb : b < 2 ^ 31) (hk : ∀ p : Nat, p < (R 10).toNat → R (11 + 5 * (p : Int) + 0) = 1 → b.testBit p = false) {i c : Nat} (hi : i < 676) (hc : c ≤ i) (hv : v 150 (i : Int) = (b : Int)) {x1 x0 L K : Int} (hx1 : v 154 (680 * ((i : Int) + 1) + (c : Int) + 1) = K + x1) (hx0 : v 154 (680 * ((i : Int) + 1) + (c : Int)) = K + x0) (hK : 0 ≤ K ∧ K ≤ 1000000 ∧ 0 ≤ x1 ∧ x1 ≤ 1000000 ∧ 0 ≤ x0 ∧ x0 ≤ 1000000) {q : Nat} (hq : q < (R 10).toNat) (hq1 : (b ||| yWm R 255 (c : Int)).testBit q = true) (hq2 : R (11 + 5 * (q : Int) + 1) + (if R (11 + 5 * (q : Int) + 2) = 1 then x1 else x0) = L) (hq3 : ∀ p : Nat, p < q → ((b ||| yWm R 255 (c : Int)).testBit p && decide (R (11 + 5 * (p : Int) + 1) + (if R (11 + 5 * (p : Int) + 2) = 1 then x1 else x0) = L)) = false) : ∀ (m fu p : Nat), p + m = q → m + 1 < fu → fX12_readsBest_L68 fu v (c : Int) (i : Int) (100 + K + L) (R 10) (p : Int) = some (v, (q : Int)) := by
  have h8 := hR.2.2.1
  have body : ∀ (k p : Nat), p < (R 10).toNat → fX12_readsBest_L68 (k + 1) v (c : Int) (i : Int) (100 + K + L) (R 10) (p : Int) = if ((b ||| yWm R 255 (c : Int)).testBit p && decide (R (11 + 5 * (p : Int) + 1) + (if R (11 + 5 * (p : Int) + 2) = 1 then x1 else x0) = L)) = true then fX12_readsBest_L68 k v (c : Int) (i : Int) (100 + K + L) (p : Int) ((p + 1 : Nat) : Int) else fX12_readsBest_L68 k v (c : Int) (i : Int) (100 + K + L) (R 10) ((p + 1 : Nat) : Int) := fun k p hp => by
    have hyb := yH_b hR hp
    change 1 ≤ R (11 + 5 * (p : Int) + 1) ∧ R (11 + 5 * (p : Int) + 1) ≤ 300 ∧ _ at hyb
    have e1 : (p : Int) + 1 = ((p + 1 : Nat) : Int) := by omega
    have eM : ∀ f : Int, 0 ≤ f ∧ f ≤ 4 → fX12_premiumIs v (p : Int) f = some (v, R (11 + 5 * (p : Int) + f)) := fun f hf => by rw [m_prem (by omega) hf, h3]
    rw [fX12_readsBest_L68.eq_2, m_premiums, zcl_e, h3, if_neg (by omega), m_premiums, zcl_e, h3, if_neg (fun h => h rfl), m_canBe hR h3 hb hk (by omega) hv hp, zcl_e, zn_pos (by omega), eM 1 (by decide), zcl_e, eM 2 (by decide), zcl_e, zck_pos (by omega), e1]
    have eX : v 154 (680 * ((i : Int) + 1) + (c : Int) + R (11 + 5 * (p : Int) + 2)) = K + (if R (11 + 5 * (p : Int) + 2) = 1 then x1 else x0) := by
      rcases hyb.2.2.1 with h | h
      · rw [h, if_neg (by decide), Int.add_zero]
        exact hx0
      · rw [h, if_pos rfl]
        exact hx1
    rw [eX]
    have hx : 0 ≤ (if R (11 + 5 * (p : Int) + 2) = 1 then x1 else x0) ∧ (if R (11 + 5 * (p : Int) + 2) = 1 then x1 else x0) ≤ 1000000 := by split <;> omega
    generalize (if R (11 + 5 * (p : Int) + 2) = 1 then x1 else x0) = y at hx ⊢
    rw [zn_pos (by omega), zn_pos (by omega), zn_pos (by omega)]
    cases a : (b ||| yWm R 255 (c : Int)).testBit p with
    | false => rw [if_pos (by decide), Bool.false_and, if_neg (by decide : ¬ (false = true))]
    | true =>
      rw [if_neg (by decide), Bool.true_and]
      by_cases d : R (11 + 5 * (p : Int) + 1) + y = L
      · rw [if_neg (by omega), if_pos (decide_eq_true d)]
      · rw [if_pos (by omega), if_neg (by rw [decide_eq_false d]; decide)]
  intro m
  induction m with
  | zero =>
    intro fu p hp hf
    obtain ⟨k, rfl⟩ : ∃ k, fu = k + 1 + 1 := ⟨fu - 2, by omega⟩
    have e : p = q := by omega
    rw [e, body (k + 1) q hq, hq1, decide_eq_true hq2, Bool.true_and, if_pos rfl, fX12_readsBest_L68.eq_2, m_premiums, zcl_e, h3]
    by_cases d : R 10 ≤ ((q + 1 : Nat) : Int)
    · rw [if_pos d]
    · rw [if_neg d, m_premiums, zcl_e, h3, if_pos (by omega)]
  | succ m ih =>
    intro fu p hp hf
    obtain ⟨k, rfl⟩ : ∃ k, fu = k + 1 := ⟨fu - 1, by omega⟩
    rw [body k p (by omega), hq3 p (by omega), if_neg (by decide : ¬ (false = true))]
    exact ih k (p + 1) (by omega) (by omega)
theorem reads_out {R : Int → Int} (hR : zWR R) {bs : List Nat} (hb : yOk R bs) (hn : bs.length ≤ 676) : ∀ (l : List Nat) (fu i c : Nat) (v : zHp), bs.drop i = l → i + l.length = bs.length → c ≤ i → l.length < fu → v 139 = R → (∀ j : Nat, j < bs.length → v 150 (j : Int) = ((bs.getD j 0 : Nat) : Int)) → v 137 23 = (bs.length : Int) → yTb R bs 0 v → ∃ v', fX12_readsBest_L4 fu v (c : Int) (i : Int) = some (v', yBe R 255 l (c : Int)) ∧ (∀ x : Nat, x < l.length → v' 151 ((i : Int) + (x : Int)) = (yB R 255 l (c : Int)).getD x 0 ∧ v' 153 ((i : Int) + (x : Int)) = (yBc R 255 l (c : Int)).getD x 0) ∧ (∀ j : Int, j < (i : Int) → v' 151 j = v 151 j ∧ v' 153 j = v 153 j) ∧ ∀ a, a ≠ 151 → a ≠ 153 → v' a = v a
  | [], fu, i, c, v, h1, h2, h3, h4, h5, h6, h7, h8 => by
    obtain ⟨k, rfl⟩ : ∃ k, fu = k + 1 := ⟨fu - 1, by omega⟩
    have h2' : i = bs.length := h2
    refine ⟨v, ?_, fun x hx => absurd hx (Nat.not_lt_zero _), fun j _ => ⟨rfl, rfl⟩, fun a _ _ => rfl⟩
    rw [fX12_readsBest_L4.eq_2, if_pos (by omega)]
    rfl
  | b :: t, fu, i, c, v, h1, h2, h3, h4, h5, h6, h7, h8 => by
    obtain ⟨k, rfl⟩ : ∃ k, fu = k + 1 := ⟨fu - 1, by omega⟩
    rw [List.length_cons] at h2 h4
    have hi : i < bs.length := by omega
    have hd := dp_c (d := 0) hi
    rw [h1] at hd
    obtain ⟨hd1, hd2⟩ := List.cons.inj hd
    obtain ⟨hb1, hb2⟩ := hb i hi
    rw [← hd1] at hb1 hb2
    have hv := h6 i hi
    rw [← hd1] at hv
    have t0 := h8 i (Nat.zero_le _) (by omega) c h3
    have t1 := h8 (i + 1) (Nat.zero_le _) (by omega) (c + 1) (by omega)
    have t2 := h8 (i + 1) (Nat.zero_le _) (by omega) c (by omega)
    rw [h1] at t0
    rw [← hd2, show ((i + 1 : Nat) : Int) = (i : Int) + 1 by omega] at t1 t2
    rw [show ((c + 1 : Nat) : Int) = (c : Int) + 1 by omega, show 680 * ((i : Int) + 1) + ((c : Int) + 1) = 680 * ((i : Int) + 1) + (c : Int) + 1 by omega] at t1
    have b1 := yW_b hR (al := 255) t ((c : Int) + 1)
    have b2 := yW_b hR (al := 255) t (c : Int)
    have b3 := yW_b hR (al := 255) (b :: t) (c : Int)
    rw [List.length_cons] at b3
    have h80 := hR.2.2.1
    have n153 : ∀ a, a ≠ 153 → zst v 153 (i : Int) (c : Int) a = v a := fun a ha => by funext j; exact zst_na ha
    have go : ∀ (its : Int) (c' : Nat), its = yHd R 255 b t (c : Int) → (c' : Int) = (c : Int) + yCn R its → c' ≤ i + 1 → ∃ v', fX12_readsBest_L4 k (zst (zst v 153 (i : Int) (c : Int)) 151 (i : Int) its) (c' : Int) ((i + 1 : Nat) : Int) = some (v', yBe R 255 (b :: t) (c : Int)) ∧ (∀ x : Nat, x < (b :: t).length → v' 151 ((i : Int) + (x : Int)) = (yB R 255 (b :: t) (c : Int)).getD x 0 ∧ v' 153 ((i : Int) + (x : Int)) = (yBc R 255 (b :: t) (c : Int)).getD x 0) ∧ (∀ j : Int, j < (i : Int) → v' 151 j = v 151 j ∧ v' 153 j = v 153 j) ∧ ∀ a, a ≠ 151 → a ≠ 153 → v' a = v a := fun its c' e1 e2 e3 => by
      have na : ∀ a, a ≠ 151 → a ≠ 153 → zst (zst v 153 (i : Int) (c : Int)) 151 (i : Int) its a = v a := fun a a1 a2 => by
        funext j
        rw [zst_na a1, zst_na a2]
      obtain ⟨v', g1, g2, g3, g4⟩ := reads_out hR hb hn t k (i + 1) c' (zst (zst v 153 (i : Int) (c : Int)) 151 (i : Int) its) hd2.symm (by omega) e3 (by omega) (by rw [na 139 (by decide) (by decide)]; exact h5) (by rw [na 150 (by decide) (by decide)]; exact h6) (by rw [na 137 (by decide) (by decide)]; exact h7) (by
        unfold yTb
        rw [na 154 (by decide) (by decide)]
        exact h8)
      have e4 : (c' : Int) = (c : Int) + yCn R (yHd R 255 b t (c : Int)) := by rw [← e1]; exact e2
      have eB : yBe R 255 (b :: t) (c : Int) = yBe R 255 t (c' : Int) := by
        show yBe R 255 t ((c : Int) + yCn R (yHd R 255 b t (c : Int))) = _
        rw [e4]
      have eY : yB R 255 (b :: t) (c : Int) = its :: yB R 255 t (c' : Int) := by
        show yHd R 255 b t (c : Int) :: yB R 255 t ((c : Int) + yCn R (yHd R 255 b t (c : Int))) = _
        rw [e4, e1]
      have eZ : yBc R 255 (b :: t) (c : Int) = (c : Int) :: yBc R 255 t (c' : Int) := by
        show (c : Int) :: yBc R 255 t ((c : Int) + yCn R (yHd R 255 b t (c : Int))) = _
        rw [e4]
      rw [eB, eY, eZ]
      refine ⟨v', g1, fun x hx => ?_, fun j hj => ?_, fun a a1 a2 => by rw [g4 a a1 a2, na a a1 a2]⟩
      · rcases x with _ | x
        · rw [show (i : Int) + ((0 : Nat) : Int) = (i : Int) by omega, (g3 (i : Int) (by omega)).1, (g3 (i : Int) (by omega)).2, zst_eq, zst_na (by decide), zst_eq]
          exact ⟨rfl, rfl⟩
        · rw [show (i : Int) + ((x + 1 : Nat) : Int) = ((i + 1 : Nat) : Int) + (x : Int) by omega]
          exact g2 x (Nat.lt_of_succ_lt_succ hx)
      · rw [(g3 j (by omega)).1, (g3 j (by omega)).2, zst_nj (by omega), zst_na (by decide), zst_na (by decide), zst_nj (by omega)]
        exact ⟨rfl, rfl⟩
    rw [fX12_readsBest_L4.eq_2, h7, if_neg (by omega), zck_pos (by omega), zb_e, zck_pos (by omega), zck_pos (by omega), n153 154 (by decide), t1, t0, zn_pos (by omega)]
    rcases yHd_ok hR (al := 255) (b := b) (t := t) (c := (c : Int)) with ⟨q1, q2⟩ | ⟨p, q1, q2, q3, q4, q5⟩
    · rw [if_neg (by omega)]
      unfold fX12_readsBest_J63
      have e : fX12_readsBest_L68 zFU (zst v 153 (i : Int) (c : Int)) (c : Int) (i : Int) (100 * ((bs.length : Int) - (i : Int)) + yW R 255 (b :: t) (c : Int)) (-1) 0 = some (zst v 153 (i : Int) (c : Int), -1) := by
        rw [show zFU = 999999 + 1 from rfl, fX12_readsBest_L68.eq_2, m_premiums, zcl_e, n153 139 (by decide), h5]
        by_cases d : R 10 ≤ 0
        · rw [if_pos d]
        · rw [if_neg d, m_premiums, zcl_e, n153 139 (by decide), h5, if_pos (by omega)]
      rw [e, zl_e, zck_pos (by omega), zb_e, if_neg (by decide), zn_pos (by omega), zn_pos (by omega), show (i : Int) + 1 = ((i + 1 : Nat) : Int) by omega, show (c : Int) + 1 = ((c + 1 : Nat) : Int) by omega]
      exact go (-1) (c + 1) q1.symm (by show ((c + 1 : Nat) : Int) = (c : Int) + 1; omega) (by omega)
    · have hC := (yH_b hR q2).2.2.1
      rw [if_pos (by omega), m_premiums, zcl_e, n153 139 (by decide), h5]
      unfold fX12_readsBest_J63
      have hfs : yFs (fun p => (b ||| yWm R 255 (c : Int)).testBit p && decide (R (11 + 5 * (p : Int) + 1) + (if R (11 + 5 * (p : Int) + 2) = 1 then yW R 255 t ((c : Int) + 1) else yW R 255 t (c : Int)) = yW R 255 (b :: t) (c : Int))) (R 10).toNat = (p : Int) := by
        rw [← q1]
        unfold yHd yPk
        rw [if_neg q3]
      have hfirst : ∀ p' : Nat, p' < p → ((b ||| yWm R 255 (c : Int)).testBit p' && decide (R (11 + 5 * (p' : Int) + 1) + (if R (11 + 5 * (p' : Int) + 2) = 1 then yW R 255 t ((c : Int) + 1) else yW R 255 t (c : Int)) = yW R 255 (b :: t) (c : Int))) = false := by
        rcases yFs_b (P := fun p => (b ||| yWm R 255 (c : Int)).testBit p && decide (R (11 + 5 * (p : Int) + 1) + (if R (11 + 5 * (p : Int) + 2) = 1 then yW R 255 t ((c : Int) + 1) else yW R 255 t (c : Int)) = yW R 255 (b :: t) (c : Int))) (R 10).toNat with ⟨f1, _⟩ | ⟨q, f1, _, _, f4⟩
        · omega
        · rw [hfs] at f1
          intro p' hp'
          exact f4 p' (by omega)
      have e := reads_in hR (v := zst v 153 (i : Int) (c : Int)) (by rw [n153 139 (by decide)]; exact h5) hb1 hb2 (i := i) (c := c) (by omega) h3 (by rw [n153 150 (by decide)]; exact hv) (x1 := yW R 255 t ((c : Int) + 1)) (x0 := yW R 255 t (c : Int)) (L := yW R 255 (b :: t) (c : Int)) (K := 100 * ((bs.length : Int) - ((i : Int) + 1))) (by rw [n153 154 (by decide)]; exact t1) (by rw [n153 154 (by decide)]; exact t2) (by omega) q2 q4 q5 hfirst p zFU 0 (by omega) (zFU_lt (by omega))
      rw [show ((0 : Nat) : Int) = 0 from rfl, show 100 + 100 * ((bs.length : Int) - ((i : Int) + 1)) + yW R 255 (b :: t) (c : Int) = 100 * ((bs.length : Int) - (i : Int)) + yW R 255 (b :: t) (c : Int) by omega] at e
      have eC : yCn R (p : Int) = R (11 + 5 * (p : Int) + 2) := if_neg (by omega)
      rw [e, zl_e, zck_pos (by omega), zb_e, if_pos (by omega), m_prem (by omega) (by decide), zcl_e, show zst (zst v 153 (i : Int) (c : Int)) 151 (i : Int) (p : Int) 139 = R by rw [← h5]; funext j; rw [zst_na (by decide), zst_na (by decide)], zn_pos (by omega), zn_pos (by omega), show (i : Int) + 1 = ((i + 1 : Nat) : Int) by omega]
      rcases hC with hC | hC
      · rw [hC, Int.add_zero]
        exact go (p : Int) c q1.symm (by rw [eC, hC, Int.add_zero]) (by omega)
      · rw [hC, show (c : Int) + 1 = ((c + 1 : Nat) : Int) by omega]
        exact go (p : Int) (c + 1) q1.symm (by rw [eC, hC]; rfl) (by omega)
theorem m_readsBest {R : Int → Int} (hR : zWR R) {bs : List Nat} (hb : yOk R bs) (hn : bs.length ≤ 676) {v : zHp} (h5 : v 139 = R) (h6 : ∀ j : Nat, j < bs.length → v 150 (j : Int) = ((bs.getD j 0 : Nat) : Int)) (h7 : v 137 23 = (bs.length : Int)) (h8 : yTb R bs 0 v) : ∃ v', fX12_readsBest v = some (v', 0) ∧ (∀ x : Nat, x < bs.length → v' 151 (x : Int) = (yB R 255 bs 0).getD x 0 ∧ v' 153 (x : Int) = (yBc R 255 bs 0).getD x 0) ∧ v' 137 32 = yBe R 255 bs 0 ∧ (∀ a, a ≠ 151 → a ≠ 153 → a ≠ 137 → v' a = v a) ∧ ∀ j, j ≠ 32 → v' 137 j = v 137 j := by
  obtain ⟨u, g1, g2, g3, g4⟩ := reads_out hR hb hn bs zFU 0 0 v rfl (by omega) (Nat.le_refl _) (zFU_lt (by omega)) h5 h6 h7 h8
  rw [show ((0 : Nat) : Int) = 0 from rfl] at g1 g2
  refine ⟨zst u 137 32 (yBe R 255 bs 0), ?_, fun x hx => ?_, zst_eq, fun a a1 a2 a3 => by funext j; rw [zst_na a3, g4 a a1 a2], fun j hj => by rw [zst_nj hj, g4 137 (by decide) (by decide)]⟩
  · unfold fX12_readsBest
    rw [g1]
    rfl
  · have := g2 x hx
    rw [Int.zero_add] at this
    rw [zst_na (by decide), zst_na (by decide)]
    exact this
/-! as they come -/
theorem coming_in {R : Int → Int} (hR : zWR R) {v : zHp} (h3 : v 139 = R) {b : Nat} (hb : b < 2 ^ 31) (hk : ∀ p : Nat, p < (R 10).toNat → R (11 + 5 * (p : Int) + 0) = 1 → b.testBit p = false) {i c : Int} (hi : 0 ≤ i ∧ i < 680) (hv : v 150 i = (b : Int)) : ∀ (m fu p : Nat), p + m = (R 10).toNat → m < fu → fX12_laysComing_L17 fu v c i (yDr R (b ||| yWm R 255 c).testBit p) (p : Int) = some (v, yDr R (b ||| yWm R 255 c).testBit (R 10).toNat)
  | 0, fu, p, h1, h2 => by
    obtain ⟨k, rfl⟩ : ∃ k, fu = k + 1 := ⟨fu - 1, by omega⟩
    have h8 := hR.2.2.1
    rw [fX12_laysComing_L17.eq_2, m_premiums, zcl_e, h3, if_pos (by omega), show p = (R 10).toNat by omega]
  | m + 1, fu, p, h1, h2 => by
    obtain ⟨k, rfl⟩ : ∃ k, fu = k + 1 := ⟨fu - 1, by omega⟩
    have h8 := hR.2.2.1
    have hp : p < (R 10).toNat := by omega
    have hyb := yH_b hR hp
    change 1 ≤ R (11 + 5 * (p : Int) + 1) ∧ R (11 + 5 * (p : Int) + 1) ≤ 300 ∧ _ at hyb
    have hd := yDr_b (R := R) (P := (b ||| yWm R 255 c).testBit) p
    have ih := coming_in (c := c) hR h3 hb hk hi hv m k (p + 1) (by omega) (by omega)
    have e : yDr R (b ||| yWm R 255 c).testBit (p + 1) = if ((b ||| yWm R 255 c).testBit p && decide (yHn R (yDr R (b ||| yWm R 255 c).testBit p) < R (11 + 5 * (p : Int) + 1))) = true then (p : Int) else yDr R (b ||| yWm R 255 c).testBit p := rfl
    rw [e] at ih
    rw [fX12_laysComing_L17.eq_2, m_premiums, zcl_e, h3, if_neg (by omega), m_canBe hR h3 hb hk hi hv hp, zcl_e, show (p : Int) + 1 = ((p + 1 : Nat) : Int) by omega]
    simp only [zn_pos (show -2147483648 ≤ ((p + 1 : Nat) : Int) ∧ ((p + 1 : Nat) : Int) ≤ 2147483647 by omega)]
    rw [← ih]
    cases a : (b ||| yWm R 255 c).testBit p with
    | false => rw [if_pos (by decide), Bool.false_and, if_neg (by decide : ¬ (false = true))]
    | true =>
      rw [if_neg (by decide), Bool.true_and]
      by_cases d : yDr R (b ||| yWm R 255 c).testBit p = -1
      · rw [if_pos d, d, show yHn R (-1) = 0 from rfl, if_pos (decide_eq_true (by omega))]
      · have e2 : yHn R (yDr R (b ||| yWm R 255 c).testBit p) = R (11 + 5 * yDr R (b ||| yWm R 255 c).testBit p + 1) := if_neg d
        rw [if_neg d, m_prem (by omega) (by decide), zcl_e, m_prem (by omega) (by decide), zcl_e, h3, e2]
        by_cases f : R (11 + 5 * yDr R (b ||| yWm R 255 c).testBit p + 1) < R (11 + 5 * (p : Int) + 1)
        · rw [if_neg (by omega), if_pos (decide_eq_true f)]
        · rw [if_pos (by omega), if_neg (by rw [decide_eq_false f]; decide)]
theorem coming_out {R : Int → Int} (hR : zWR R) {bs : List Nat} (hb : yOk R bs) (hn : bs.length ≤ 676) : ∀ (l : List Nat) (fu i c : Nat) (v : zHp), bs.drop i = l → i + l.length = bs.length → c ≤ i → l.length < fu → v 139 = R → (∀ j : Nat, j < bs.length → v 150 (j : Int) = ((bs.getD j 0 : Nat) : Int)) → v 137 23 = (bs.length : Int) → ∃ v', fX12_laysComing_L4 fu v (c : Int) (i : Int) = some (v', yCe R 255 l (c : Int)) ∧ (∀ x : Nat, x < l.length → v' 152 ((i : Int) + (x : Int)) = (yCm R 255 l (c : Int)).getD x 0) ∧ (∀ j : Int, j < (i : Int) → v' 152 j = v 152 j) ∧ ∀ a, a ≠ 152 → v' a = v a
  | [], fu, i, c, v, h1, h2, h3, h4, h5, h6, h7 => by
    obtain ⟨k, rfl⟩ : ∃ k, fu = k + 1 := ⟨fu - 1, by omega⟩
    have h2' : i = bs.length := h2
    refine ⟨v, ?_, fun x hx => absurd hx (Nat.not_lt_zero _), fun j _ => rfl, fun a _ => rfl⟩
    rw [fX12_laysComing_L4.eq_2, if_pos (by omega)]
    rfl
  | b :: t, fu, i, c, v, h1, h2, h3, h4, h5, h6, h7 => by
    obtain ⟨k, rfl⟩ : ∃ k, fu = k + 1 := ⟨fu - 1, by omega⟩
    rw [List.length_cons] at h2 h4
    have hi : i < bs.length := by omega
    have hd := dp_c (d := 0) hi
    rw [h1] at hd
    obtain ⟨hd1, hd2⟩ := List.cons.inj hd
    obtain ⟨hb1, hb2⟩ := hb i hi
    rw [← hd1] at hb1 hb2
    have hv := h6 i hi
    rw [← hd1] at hv
    have h80 := hR.2.2.1
    have hin := coming_in (c := (c : Int)) hR h5 hb1 hb2 (i := (i : Int)) (by omega) hv (R 10).toNat zFU 0 (by omega) (zFU_lt (by omega))
    rw [show yDr R (b ||| yWm R 255 (c : Int)).testBit 0 = -1 from rfl, show ((0 : Nat) : Int) = 0 from rfl] at hin
    have hdb := yDr_b (R := R) (P := (b ||| yWm R 255 (c : Int)).testBit) (R 10).toNat
    have eN : yCm R 255 (b :: t) (c : Int) = yDr R (b ||| yWm R 255 (c : Int)).testBit (R 10).toNat :: yCm R 255 t ((c : Int) + yCn R (yDr R (b ||| yWm R 255 (c : Int)).testBit (R 10).toNat)) := rfl
    have eE : yCe R 255 (b :: t) (c : Int) = yCe R 255 t ((c : Int) + yCn R (yDr R (b ||| yWm R 255 (c : Int)).testBit (R 10).toNat)) := rfl
    rw [fX12_laysComing_L4.eq_2, h7, if_neg (by omega), hin, zl_e, zck_pos (by omega), zb_e, eN, eE]
    generalize yDr R (b ||| yWm R 255 (c : Int)).testBit (R 10).toNat = its at hdb ⊢
    have na : ∀ a, a ≠ 152 → zst v 152 (i : Int) its a = v a := fun a ha => by funext j; exact zst_na ha
    have go : ∀ (c' : Nat), (c' : Int) = (c : Int) + yCn R its → c' ≤ i + 1 → ∃ v', fX12_laysComing_L4 k (zst v 152 (i : Int) its) (c' : Int) ((i + 1 : Nat) : Int) = some (v', yCe R 255 t ((c : Int) + yCn R its)) ∧ (∀ x : Nat, x < (b :: t).length → v' 152 ((i : Int) + (x : Int)) = (its :: yCm R 255 t ((c : Int) + yCn R its)).getD x 0) ∧ (∀ j : Int, j < (i : Int) → v' 152 j = v 152 j) ∧ ∀ a, a ≠ 152 → v' a = v a := fun c' e2 e3 => by
      obtain ⟨v', g1, g2, g3, g4⟩ := coming_out hR hb hn t k (i + 1) c' (zst v 152 (i : Int) its) hd2.symm (by omega) e3 (by omega) (by rw [na 139 (by decide)]; exact h5) (by rw [na 150 (by decide)]; exact h6) (by rw [na 137 (by decide)]; exact h7)
      rw [← e2]
      refine ⟨v', g1, fun x hx => ?_, fun j hj => by rw [g3 j (by omega), zst_nj (by omega)], fun a a1 => by rw [g4 a a1, na a a1]⟩
      rcases x with _ | x
      · rw [show (i : Int) + ((0 : Nat) : Int) = (i : Int) by omega, g3 (i : Int) (by omega), zst_eq]
        rfl
      · rw [show (i : Int) + ((x + 1 : Nat) : Int) = ((i + 1 : Nat) : Int) + (x : Int) by omega]
        exact g2 x (Nat.lt_of_succ_lt_succ hx)
    by_cases d : its = -1
    · rw [if_neg (by omega), zn_pos (by omega), zn_pos (by omega), show (i : Int) + 1 = ((i + 1 : Nat) : Int) by omega, show (c : Int) + 1 = ((c + 1 : Nat) : Int) by omega]
      exact go (c + 1) (by rw [d]; show ((c + 1 : Nat) : Int) = (c : Int) + 1; omega) (by omega)
    · have eC : yCn R its = R (11 + 5 * its + 2) := if_neg d
      have hC := yCn_b hR (x := its) (by omega)
      rw [eC] at hC
      rw [if_pos d, m_prem (by omega) (by decide), zcl_e, na 139 (by decide), h5, zn_pos (by omega), zn_pos (by omega), show (i : Int) + 1 = ((i + 1 : Nat) : Int) by omega]
      rcases hC with hC | hC
      · have := go c (by rw [eC, hC, Int.add_zero]) (by omega)
        rw [hC, Int.add_zero]
        exact this
      · have := go (c + 1) (by rw [eC, hC]; rfl) (by omega)
        rw [hC, show (c : Int) + 1 = ((c + 1 : Nat) : Int) by omega]
        exact this
theorem m_laysComing {R : Int → Int} (hR : zWR R) {bs : List Nat} (hb : yOk R bs) (hn : bs.length ≤ 676) {v : zHp} (h5 : v 139 = R) (h6 : ∀ j : Nat, j < bs.length → v 150 (j : Int) = ((bs.getD j 0 : Nat) : Int)) (h7 : v 137 23 = (bs.length : Int)) : ∃ v', fX12_laysComing v = some (v', 0) ∧ (∀ x : Nat, x < bs.length → v' 152 (x : Int) = (yCm R 255 bs 0).getD x 0) ∧ v' 137 33 = yCe R 255 bs 0 ∧ (∀ a, a ≠ 152 → a ≠ 137 → v' a = v a) ∧ ∀ j, j ≠ 33 → v' 137 j = v 137 j := by
  obtain ⟨u, g1, g2, g3, g4⟩ := coming_out hR hb hn bs zFU 0 0 v rfl (by omega) (Nat.le_refl _) (zFU_lt (by omega)) h5 h6 h7
  rw [show ((0 : Nat) : Int) = 0 from rfl] at g1 g2
  refine ⟨zst u 137 33 (yCe R 255 bs 0), ?_, fun x hx => ?_, zst_eq, fun a a1 a3 => by funext j; rw [zst_na a3, g4 a a1], fun j hj => by rw [zst_nj hj, g4 137 (by decide)]⟩
  · unfold fX12_laysComing
    rw [g1]
    rfl
  · have := g2 x hx
    rw [Int.zero_add] at this
    rw [zst_na (by decide)]
    exact this
