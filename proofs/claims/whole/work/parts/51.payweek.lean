/-! PURE: the class pays a week. My own text. -/
theorem came_L {R : Int → Int} {al ru : Nat} {bs : List Nat} (hR : zWR R) (hb : yOk R bs) (hn : bs.length ≤ 676) : ∀ (l : List Nat) (fu i c : Nat) (v : zHp), bs.drop i = l → i + l.length = bs.length → c ≤ i → l.length < fu → zRC ru v R → v 126 3 = (bs.length : Int) → (∀ j : Nat, j < bs.length → v 128 (j : Int) = ((bs.getD j 0 : Nat) : Int)) → ∃ v', fX10_payAsTheyCome_L5 fu v ru (al : Int) (c : Int) (i : Int) = some (v', 0) ∧ (∀ x : Nat, x < l.length → v' 129 ((i : Int) + (x : Int)) = (yCm R al l (c : Int)).getD x 0) ∧ (∀ j : Int, j < (i : Int) → v' 129 j = v 129 j) ∧ ∀ a, a ≠ 129 → v' a = v a
  | [], fu, i, c, v, h1, h2, h3, h4, h5, h6, h7 => by
    obtain ⟨k, rfl⟩ : ∃ k, fu = k + 1 := ⟨fu - 1, by omega⟩
    have h2' : i = bs.length := h2
    refine ⟨v, ?_, fun x hx => absurd hx (Nat.not_lt_zero _), fun j _ => rfl, fun a _ => rfl⟩
    rw [fX10_payAsTheyCome_L5.eq_2, if_pos (by omega)]
  | b :: t, fu, i, c, v, h1, h2, h3, h4, h5, h6, h7 => by
    obtain ⟨k, rfl⟩ : ∃ k, fu = k + 1 := ⟨fu - 1, by omega⟩
    rw [List.length_cons] at h2 h4
    have hi : i < bs.length := by omega
    have hd := dp_c (d := 0) hi
    rw [h1] at hd
    obtain ⟨hd1, hd2⟩ := List.cons.inj hd
    obtain ⟨hb1, hb2⟩ := hb i hi
    rw [← hd1] at hb1
    have hv := h7 i hi
    rw [← hd1] at hv
    have h80 := hR.2.2.1
    have hr0 := h5.1
    have hdb := yDr_b (R := R) (P := (b ||| yWm R al (c : Int)).testBit) (R 10).toNat
    have eA : zor (v 128 (i : Int)) (zand ((zmk (zWb R (c : Int)) (R 10).toNat : Nat) : Int) (al : Int)) = ((b ||| yWm R al (c : Int) : Nat) : Int) := by
      rw [hv, zand_n (zmk_31 (by omega))]
      exact zor_n hb1 (yWm_lt hR)
    have eN : yCm R al (b :: t) (c : Int) = yDr R (b ||| yWm R al (c : Int)).testBit (R 10).toNat :: yCm R al t ((c : Int) + yCn R (yDr R (b ||| yWm R al (c : Int)).testBit (R 10).toNat)) := rfl
    rw [fX10_payAsTheyCome_L5.eq_2, if_neg (by omega), zck_pos (by omega), c_weekBits hR h5, zcl_e, eA, c_dearestOf hR h5 (Nat.or_lt_two_pow hb1 (yWm_lt hR)), zcl_e, zck_pos (by omega), zb_e, zck_pos (by omega), zst_eq, eN]
    generalize yDr R (b ||| yWm R al (c : Int)).testBit (R 10).toNat = its at hdb ⊢
    have hib : its = -1 ∨ (0 ≤ its ∧ its < R 10) := by omega
    have hcn := yCn_b hR hib
    have na : ∀ a, a ≠ 129 → zst v 129 (i : Int) its a = v a := fun a ha => by funext j; exact zst_na ha
    have hru : zRC ru (zst v 129 (i : Int) its) R := h5.of hR fun a a1 a2 => na a (by omega)
    have go : ∀ (c' : Nat), (c' : Int) = (c : Int) + yCn R its → c' ≤ i + 1 → ∃ v', fX10_payAsTheyCome_L5 k (zst v 129 (i : Int) its) ru (al : Int) (c' : Int) ((i + 1 : Nat) : Int) = some (v', 0) ∧ (∀ x : Nat, x < (b :: t).length → v' 129 ((i : Int) + (x : Int)) = (its :: yCm R al t ((c : Int) + yCn R its)).getD x 0) ∧ (∀ j : Int, j < (i : Int) → v' 129 j = v 129 j) ∧ ∀ a, a ≠ 129 → v' a = v a := fun c' e2 e3 => by
      obtain ⟨v', g1, g2, g3, g4⟩ := came_L (al := al) (ru := ru) hR hb hn t k (i + 1) c' (zst v 129 (i : Int) its) hd2.symm (by omega) e3 (by omega) hru (by rw [na 126 (by decide)]; exact h6) (by rw [na 128 (by decide)]; exact h7)
      rw [← e2]
      refine ⟨v', g1, fun x hx => ?_, fun j hj => by rw [g3 j (by omega), zst_nj (by omega)], fun a a1 => by rw [g4 a a1, na a a1]⟩
      rcases x with _ | x
      · rw [show (i : Int) + ((0 : Nat) : Int) = (i : Int) by omega, g3 (i : Int) (by omega), zst_eq]
        rfl
      · rw [show (i : Int) + ((x + 1 : Nat) : Int) = ((i + 1 : Nat) : Int) + (x : Int) by omega]
        exact g2 x (Nat.lt_of_succ_lt_succ hx)
    rw [c_countsUnder hR hru hib, zcl_e]
    simp only [zn_pos (show -2147483648 ≤ (i : Int) + 1 ∧ (i : Int) + 1 ≤ 2147483647 by omega), zn_pos (show -2147483648 ≤ (c : Int) + 1 ∧ (c : Int) + 1 ≤ 2147483647 by omega)]
    rw [show (i : Int) + 1 = ((i + 1 : Nat) : Int) by omega]
    rcases hcn with h0 | h0
    · rw [if_pos h0]
      exact go c (by rw [h0, Int.add_zero]) (by omega)
    · rw [if_neg (by omega)]
      exact go (c + 1) (by rw [h0]; rfl) (by omega)
theorem c_came {R : Int → Int} {al ru : Nat} {bs : List Nat} (hR : zWR R) (hb : yOk R bs) (hn : bs.length ≤ 676) {v : zHp} (h5 : zRC ru v R) (h6 : v 126 3 = (bs.length : Int)) (h7 : ∀ j : Nat, j < bs.length → v 128 (j : Int) = ((bs.getD j 0 : Nat) : Int)) : ∃ v', fX10_payAsTheyCome v ru (al : Int) = some (v', 0) ∧ (∀ x : Nat, x < bs.length → v' 129 (x : Int) = (yCm R al bs 0).getD x 0) ∧ ∀ a, a ≠ 129 → v' a = v a := by
  obtain ⟨v', g1, g2, g3, g4⟩ := came_L (al := al) (ru := ru) hR hb hn bs zFU 0 0 v rfl (by omega) (Nat.le_refl _) (zFU_lt (by omega)) h5 h6 h7
  rw [show ((0 : Nat) : Int) = 0 from rfl] at g1 g2
  refine ⟨v', ?_, fun x hx => ?_, g4⟩
  · unfold fX10_payAsTheyCome
    rw [g1]
    rfl
  · have := g2 x hx
    rw [Int.zero_add] at this
    exact this
/-! a week's list, and what the sheet holds of it -/
abbrev yLq (R : Int → Int) (D : Int → Bool) (wk : Int) : List Int := yQL D (zQA R (7 * wk + 7)).toNat
def yBl (R : Int → Int) (D : Int → Bool) (al : Nat) (wk : Int) : List Nat := (yLq R D wk).map fun q => zBi R D al wk q
theorem yBl_len {R : Int → Int} {D : Int → Bool} {al : Nat} {wk : Int} : (yBl R D al wk).length = zN D (zQA R (7 * wk + 7)) := by
  unfold yBl
  rw [List.length_map]
theorem mp_get {f : Int → Nat} {l : List Int} {i : Nat} (h : i < l.length) : (l.map f).getD i 0 = f (l.getD i 0) := by
  rw [List.getD_eq_getElem?_getD, List.getElem?_map, List.getElem?_eq_getElem h, List.getD_eq_getElem?_getD, List.getElem?_eq_getElem h]
  rfl
theorem yBl_get {R : Int → Int} {D : Int → Bool} {al : Nat} {wk : Int} {i : Nat} (h : i < zN D (zQA R (7 * wk + 7))) : (yBl R D al wk).getD i 0 = zBi R D al wk ((yLq R D wk).getD i 0) := mp_get h
theorem yBl_ok {R : Int → Int} (hR : zWR R) {D : Int → Bool} {al : Nat} {wk : Int} : yOk R (yBl R D al wk) := by
  intro i hi
  rw [yBl_len] at hi
  rw [yBl_get hi]
  unfold zBi
  refine ⟨zmk_31 (by have := hR.2.2.1; omega), fun p hp hk => ?_⟩
  rw [zmk_bit]
  have : zMy R (zHq R ((yLq R D wk).getD i 0)) ((zN D ((yLq R D wk).getD i 0) : Int) - (zN D (zQA R (zDy R ((yLq R D wk).getD i 0))) : Int)) (zSev R D wk (zDy R ((yLq R D wk).getD i 0))) (zHol R (zDy R ((yLq R D wk).getD i 0))) p = false := by
    unfold zMy
    rw [if_neg (by omega), if_pos hk]
  rw [this, Bool.false_and, Bool.and_false]
/-- what a week is in a sheet -/
def zSW (R : Int → Int) (al : Nat) (D : Int → Bool) (wk : Int) (v : zHp) (a0 : Nat) : Prop := (∀ q : Int, zQA R (7 * wk) ≤ q → q < zQA R (7 * wk + 7) → v (a0 + 5) q = (if D q then (yB R al (yBl R D al wk) 0).getD (zN D q) 0 else -2) ∧ v (a0 + 6) q = (if D q then (yCm R al (yBl R D al wk) 0).getD (zN D q) 0 else -2) ∧ (D q = true → v (a0 + 7) q = (((yMs R al (yBl R D al wk) 0).getD (zN D q) 0 : Nat) : Int))) ∧ v (a0 + 14) wk = R 4 * (100 * ((yBl R D al wk).length : Int) + yW R al (yBl R D al wk) 0)
theorem clear_L {a0 : Nat} {to : Int} (hto : to ≤ 2692) : ∀ (m fu : Nat) (q : Int) (v : zHp), q + (m : Int) = to → 0 ≤ q → m < fu → ∃ v', fX8_clearQuarters_L2 fu v a0 to q = some (v', 0) ∧ (∀ j : Int, v' (a0 + 5) j = if q ≤ j ∧ j < to then -2 else v (a0 + 5) j) ∧ (∀ j : Int, v' (a0 + 6) j = if q ≤ j ∧ j < to then -2 else v (a0 + 6) j) ∧ ∀ a, a ≠ a0 + 5 → a ≠ a0 + 6 → v' a = v a
  | 0, fu, q, v, h1, h2, h3 => by
    obtain ⟨k, rfl⟩ : ∃ k, fu = k + 1 := ⟨fu - 1, by omega⟩
    refine ⟨v, ?_, fun j => by rw [if_neg (by omega)], fun j => by rw [if_neg (by omega)], fun a _ _ => rfl⟩
    rw [fX8_clearQuarters_L2.eq_2, if_pos (by omega)]
  | m + 1, fu, q, v, h1, h2, h3 => by
    obtain ⟨k, rfl⟩ : ∃ k, fu = k + 1 := ⟨fu - 1, by omega⟩
    rw [fX8_clearQuarters_L2.eq_2, if_neg (by omega), zck_pos (by omega), zb_e, zck_pos (by omega), zb_e, zn_pos (by omega)]
    obtain ⟨v', g1, g2, g3, g4⟩ := clear_L (a0 := a0) hto m k (q + 1) (zst (zst v (a0 + 5) q (-2)) (a0 + 6) q (-2)) (by omega) (by omega) (by omega)
    refine ⟨v', g1, fun j => ?_, fun j => ?_, fun a a1 a2 => by rw [g4 a a1 a2]; funext j; rw [zst_na a2, zst_na a1]⟩
    · rw [g2 j, zst_na (by omega), zst_if]
      by_cases c : q + 1 ≤ j ∧ j < to
      · rw [if_pos c, if_pos (by omega)]
      · rw [if_neg c]
        by_cases d : j = q
        · rw [if_pos d, if_pos (by omega)]
        · rw [if_neg d, if_neg (by omega)]
    · rw [g3 j, zst_if, zst_na (by omega)]
      by_cases c : q + 1 ≤ j ∧ j < to
      · rw [if_pos c, if_pos (by omega)]
      · rw [if_neg c]
        by_cases d : j = q
        · rw [if_pos d, if_pos (by omega)]
        · rw [if_neg d, if_neg (by omega)]
theorem c_clear {a0 : Nat} {fr to : Int} (h0 : 0 ≤ fr ∧ fr ≤ to ∧ to ≤ 2692) (v : zHp) : ∃ v', fX8_clearQuarters v a0 fr to = some (v', 0) ∧ (∀ j : Int, v' (a0 + 5) j = if fr ≤ j ∧ j < to then -2 else v (a0 + 5) j) ∧ (∀ j : Int, v' (a0 + 6) j = if fr ≤ j ∧ j < to then -2 else v (a0 + 6) j) ∧ ∀ a, a ≠ a0 + 5 → a ≠ a0 + 6 → v' a = v a := by
  obtain ⟨v', g1, g2⟩ := clear_L (a0 := a0) h0.2.2 (to - fr).toNat zFU fr v (by omega) h0.1 (zFU_lt (by omega))
  refine ⟨v', ?_, g2⟩
  unfold fX8_clearQuarters
  rw [g1]
  rfl
/-- a row filled at the quarters of a list: so far up to the i-th -/
def yFl (D : Int → Bool) (T : Int) (n : Nat) (g : Nat → Int) (i : Nat) (f f0 : Int → Int) : Prop := ∀ q : Int, f q = if (D q = true ∧ 0 ≤ q ∧ q < T) ∧ zN D q < i then g (zN D q) else f0 q
theorem yFl_up {D : Int → Bool} {T : Int} {n : Nat} {g : Nat → Int} {i : Nat} {f f0 : Int → Int} (hi : i < (yQL D T.toNat).length) (h : yFl D T n g i f f0) : yFl D T n g (i + 1) (fun q => if q = (yQL D T.toNat).getD i 0 then g i else f q) f0 := by
  obtain ⟨q0, a1, a2, a3, a4⟩ := yQL_ex (D := D) T.toNat i hi
  intro q
  show (if q = (yQL D T.toNat).getD i 0 then g i else f q) = _
  rw [a4]
  by_cases c : q = (q0 : Int)
  · have e : zN D q = i := by rw [c, a3]; rfl
    rw [if_pos c, if_pos ⟨⟨by rw [c]; exact a2, by omega, by omega⟩, by omega⟩, e]
  · rw [if_neg c, h q]
    by_cases d : (D q = true ∧ 0 ≤ q ∧ q < T) ∧ zN D q < i
    · rw [if_pos d, if_pos ⟨d.1, by omega⟩]
    · rw [if_neg d, if_neg]
      rintro ⟨⟨d1, d2, d3⟩, d4⟩
      have d5 : zN D q = i := by
        by_cases e : zN D q < i
        · exact absurd ⟨⟨d1, d2, d3⟩, e⟩ d
        · omega
      have := (yQL_at (b := T) d2 d1 d3).2
      rw [d5, a4] at this
      exact c this.symm
theorem cpa_L {D : Int → Bool} {T : Int} {a0 a2 : Nat} {x1 x3 : Int} {n : Nat} (ha : a0 + 14 < 125) (hT : T ≤ 2692) (hn : n = (yQL D T.toNat).length) (hn2 : n ≤ 676) {g : Nat → Int} {f0 : Int → Int} : ∀ (m fu i : Nat) (v : zHp), i + m = n → m < fu → v 126 3 = (n : Int) → (∀ j : Nat, j < n → v 127 (j : Int) = (yQL D T.toNat).getD j 0) → (∀ j : Nat, j < n → v 129 (j : Int) = g j) → yFl D T n g i (v (a0 + 6)) f0 → ∃ v', fX8_payWeek_L29 fu v a0 x1 a2 x3 (i : Int) = some (v', 0) ∧ yFl D T n g n (v' (a0 + 6)) f0 ∧ ∀ a, a ≠ a0 + 6 → v' a = v a
  | 0, fu, i, v, h1, h2, h3, h4, h5, h6 => by
    obtain ⟨k, rfl⟩ : ∃ k, fu = k + 1 := ⟨fu - 1, by omega⟩
    refine ⟨v, ?_, by rw [show i = n by omega] at h6; exact h6, fun a _ => rfl⟩
    rw [fX8_payWeek_L29.eq_2, if_pos (by omega)]
  | m + 1, fu, i, v, h1, h2, h3, h4, h5, h6 => by
    obtain ⟨k, rfl⟩ : ∃ k, fu = k + 1 := ⟨fu - 1, by omega⟩
    obtain ⟨q0, a1, a2', a3, a4⟩ := yQL_ex (D := D) T.toNat i (by omega)
    rw [fX8_payWeek_L29.eq_2, if_neg (by omega), zck_pos (by omega), zck_pos (by omega), h4 i (by omega), zck_pos (by omega), zb_e, h5 i (by omega), zn_pos (by omega), show (i : Int) + 1 = ((i + 1 : Nat) : Int) by omega]
    have na : ∀ a, a ≠ a0 + 6 → zst v (a0 + 6) ((yQL D T.toNat).getD i 0) (g i) a = v a := fun a ha => by funext j; exact zst_na ha
    obtain ⟨v', g1, g2, g3⟩ := cpa_L (a2 := a2) (x1 := x1) (x3 := x3) ha hT hn hn2 m k (i + 1) (zst v (a0 + 6) ((yQL D T.toNat).getD i 0) (g i)) (by omega) (by omega) (by rw [na 126 (by omega)]; exact h3) (by rw [na 127 (by omega)]; exact h4) (by rw [na 129 (by omega)]; exact h5) (by
      have := yFl_up (by omega) h6
      intro q
      rw [zst_if]
      exact this q)
    exact ⟨v', g1, g2, fun a a1 => by rw [g3 a a1, na a a1]⟩
theorem cpb_L {D : Int → Bool} {T : Int} {a0 a2 : Nat} {x1 x6 : Int} {n : Nat} (ha : a0 + 14 < 125) (hT : T ≤ 2692) (hn : n = (yQL D T.toNat).length) (hn2 : n ≤ 676) {g g2 : Nat → Int} {f0 f2 : Int → Int} : ∀ (m fu i : Nat) (v : zHp), i + m = n → m < fu → v 126 3 = (n : Int) → (∀ j : Nat, j < n → v 127 (j : Int) = (yQL D T.toNat).getD j 0) → (∀ j : Nat, j < n → v 129 (j : Int) = g j) → (∀ j : Nat, j < n → v 128 (j : Int) = g2 j) → yFl D T n g i (v (a0 + 5)) f0 → yFl D T n g2 i (v (a0 + 7)) f2 → ∃ v', fX8_payWeek_L78 fu v a0 x1 a2 x6 (i : Int) = some (v', 0) ∧ yFl D T n g n (v' (a0 + 5)) f0 ∧ yFl D T n g2 n (v' (a0 + 7)) f2 ∧ ∀ a, a ≠ a0 + 5 → a ≠ a0 + 7 → v' a = v a
  | 0, fu, i, v, h1, h2, h3, h4, h5, h6, h7, h8 => by
    obtain ⟨k, rfl⟩ : ∃ k, fu = k + 1 := ⟨fu - 1, by omega⟩
    refine ⟨v, ?_, by rw [show i = n by omega] at h7; exact h7, by rw [show i = n by omega] at h8; exact h8, fun a _ _ => rfl⟩
    rw [fX8_payWeek_L78.eq_2, if_pos (by omega)]
  | m + 1, fu, i, v, h1, h2, h3, h4, h5, h6, h7, h8 => by
    obtain ⟨k, rfl⟩ : ∃ k, fu = k + 1 := ⟨fu - 1, by omega⟩
    obtain ⟨q0, a1, a2', a3, a4⟩ := yQL_ex (D := D) T.toNat i (by omega)
    have n1 : ∀ a, a ≠ a0 + 5 → zst v (a0 + 5) ((yQL D T.toNat).getD i 0) (g i) a = v a := fun a ha => by funext j; exact zst_na ha
    rw [fX8_payWeek_L78.eq_2, if_neg (by omega), zck_pos (by omega), zck_pos (by omega), h4 i (by omega), zck_pos (by omega), zb_e, h5 i (by omega), zck_pos (by omega), zck_pos (by omega), n1 127 (by omega), h4 i (by omega), zck_pos (by omega), n1 128 (by omega), h6 i (by omega), zb_e, zn_pos (by omega), show (i : Int) + 1 = ((i + 1 : Nat) : Int) by omega]
    have na : ∀ a, a ≠ a0 + 5 → a ≠ a0 + 7 → zst (zst v (a0 + 5) ((yQL D T.toNat).getD i 0) (g i)) (a0 + 7) ((yQL D T.toNat).getD i 0) (g2 i) a = v a := fun a ha hb => by funext j; rw [zst_na hb, zst_na ha]
    obtain ⟨v', w1, w2, w3, w4⟩ := cpb_L (a2 := a2) (x1 := x1) (x6 := x6) ha hT hn hn2 m k (i + 1) (zst (zst v (a0 + 5) ((yQL D T.toNat).getD i 0) (g i)) (a0 + 7) ((yQL D T.toNat).getD i 0) (g2 i)) (by omega) (by omega) (by rw [na 126 (by omega) (by omega)]; exact h3) (by rw [na 127 (by omega) (by omega)]; exact h4) (by rw [na 129 (by omega) (by omega)]; exact h5) (by rw [na 128 (by omega) (by omega)]; exact h6) (by
      have := yFl_up (by omega) h7
      intro q
      rw [zst_na (by omega), zst_if]
      exact this q) (by
      have := yFl_up (by omega) h8
      intro q
      rw [zst_if, zst_na (by omega)]
      exact this q)
    exact ⟨v', w1, w2, w3, fun a a1 a2 => by rw [w4 a a1 a2, na a a1 a2]⟩
