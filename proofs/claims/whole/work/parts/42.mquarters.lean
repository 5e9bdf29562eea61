/-! PURE: the reference lays a week's quarters. My own text. -/
theorem m_prem {v : zHp} {p f : Int} (hp : 0 ≤ p ∧ p < 8) (hf : 0 ≤ f ∧ f ≤ 4) : fX12_premiumIs v p f = some (v, v 139 (11 + 5 * p + f)) := by
  unfold fX12_premiumIs
  rw [zck_pos (by omega)]
theorem m_premiums (v : zHp) : fX12_premiums v = some (v, v 139 10) := by
  unfold fX12_premiums
  rw [zck_pos (by decide)]
theorem m_isNight {v : zHp} {p : Nat} (hp : p < 8) (hour : Int) : fX12_isNight v (p : Int) hour = some (v, if zNt (v 139) hour p then 1 else 0) := by
  unfold fX12_isNight zNt
  rw [m_prem (by omega) (by decide), zcl_e, m_prem (by omega) (by decide), zcl_e]
  by_cases h : v 139 (11 + 5 * (p : Int) + 4) < v 139 (11 + 5 * (p : Int) + 3)
  · rw [if_neg (by omega), if_pos h]
    by_cases a : v 139 (11 + 5 * (p : Int) + 3) ≤ hour
    · rw [if_pos a, decide_eq_true a]
      rfl
    · rw [if_neg a, decide_eq_false a, Bool.false_or]
      by_cases b : hour < v 139 (11 + 5 * (p : Int) + 4)
      · rw [if_neg (by omega), decide_eq_true b]
        rfl
      · rw [if_pos (by omega), decide_eq_false b]
        rfl
  · rw [if_pos (by omega), if_neg h]
    by_cases a : v 139 (11 + 5 * (p : Int) + 3) ≤ hour
    · rw [if_neg (by omega), decide_eq_true a, Bool.true_and]
      by_cases b : hour < v 139 (11 + 5 * (p : Int) + 4)
      · rw [if_neg (by omega), decide_eq_true b]
        rfl
      · rw [if_pos (by omega), decide_eq_false b]
        rfl
    · rw [if_pos (by omega), decide_eq_false a]
      rfl
theorem m_isMay {v : zHp} (hR : zWR (v 139)) {p : Nat} (hp : (p : Int) < v 139 10) {q d od days : Int} (hq : 0 ≤ q ∧ q < zQA (v 139) 28) (hd : 0 ≤ d) : fX12_isMay v (p : Int) q d od days = some (v, if zMy (v 139) (zHq (v 139) q) od (decide (d % 7 = 6) && decide (zand days 63 = 63)) (zHol (v 139) d) p then 1 else 0) := by
  have h8 := hR.2.2.1
  have hk := hR.2.2.2 p hp
  unfold fX12_isMay zMy
  rw [m_prem (by omega) (by decide), zcl_e]
  by_cases k0 : v 139 (11 + 5 * (p : Int) + 0) = 0
  · rw [if_pos k0, if_pos k0, m_prem (by omega) (by decide), zcl_e]
    by_cases a : v 139 (11 + 5 * (p : Int) + 3) ≤ od
    · rw [if_neg (by omega), decide_eq_true a]
      rfl
    · rw [if_pos (by omega), decide_eq_false a]
      rfl
  rw [if_neg k0, if_neg k0]
  by_cases k1 : v 139 (11 + 5 * (p : Int) + 0) = 1
  · rw [if_pos k1, if_pos k1]
    rfl
  rw [if_neg k1, if_neg k1]
  by_cases k2 : v 139 (11 + 5 * (p : Int) + 0) = 2
  · rw [if_pos k2, if_pos k2, Int.tmod_eq_emod_of_nonneg hd]
    by_cases a : d % 7 = 6
    · rw [if_neg (by omega), decide_eq_true a, Bool.true_and]
      by_cases b : zand days 63 = 63
      · rw [if_neg (by omega), decide_eq_true b]
        rfl
      · rw [if_pos b, decide_eq_false b]
        rfl
    · rw [if_pos a, decide_eq_false a]
      rfl
  rw [if_neg k2, if_neg k2]
  by_cases k3 : v 139 (11 + 5 * (p : Int) + 0) = 3
  · rw [if_pos k3, if_pos k3, m_hourOf hR.1 hq, zcl_e, m_isNight (by omega), zcl_e]
    split
    · rw [zck_pos (by decide)]
    · rw [zck_pos (by decide)]
  · rw [if_neg k3, if_neg k3, zck_pos (by decide)]
    unfold zHol
    by_cases a : zand (zshr (v 139 8) d) 1 = 1
    · rw [if_neg (by omega), decide_eq_true a]
      rfl
    · rw [if_pos a, decide_eq_false a]
      rfl
theorem q_in {R : Int → Int} (hR : zWR R) {q d od days x1 x3 i0 : Int} (hq : 0 ≤ q ∧ q < zQA R 28) (hd : 0 ≤ d) (hi : 0 ≤ i0 ∧ i0 < 680) {P : Nat → Bool} (hP : ∀ p : Nat, (p : Int) < R 10 → P p = zMy R (zHq R q) od (decide (d % 7 = 6) && decide (zand days 63 = 63)) (zHol R d) p) : ∀ (m fu p : Nat) (v : zHp), p + m = (R 10).toNat → m < fu → v 139 = R → v 137 23 = i0 → v 150 i0 = ((zmk P p : Nat) : Int) → ∃ v', fX12_laysQuarters_L107 fu v x1 days x3 od q d (p : Int) = some (v', 0) ∧ v' 150 i0 = ((zmk P (R 10).toNat : Nat) : Int) ∧ (∀ j, j ≠ i0 → v' 150 j = v 150 j) ∧ ∀ a, a ≠ 150 → v' a = v a
  | 0, fu, p, v, h1, h2, h3, h4, h5 => by
    obtain ⟨k, rfl⟩ : ∃ k, fu = k + 1 := ⟨fu - 1, by omega⟩
    have h8 := hR.2.2.1
    refine ⟨v, ?_, by rw [← show p = (R 10).toNat by omega]; exact h5, fun j _ => rfl, fun a _ => rfl⟩
    rw [fX12_laysQuarters_L107.eq_2, m_premiums, zcl_e, h3, if_pos (by omega)]
  | m + 1, fu, p, v, h1, h2, h3, h4, h5 => by
    obtain ⟨k, rfl⟩ : ∃ k, fu = k + 1 := ⟨fu - 1, by omega⟩
    have h8 := hR.2.2.1
    have n : ∀ x a, a ≠ 150 → zst v 150 i0 x a = v a := fun x a ha => by funext j; exact zst_na ha
    rw [fX12_laysQuarters_L107.eq_2, m_premiums, zcl_e, h3, if_neg (by omega), h4, zck_pos hi, m_isMay (by rw [h3]; exact hR) (by rw [h3]; omega) (by rw [h3]; exact hq) hd, zcl_e, h3, zck_pos hi, zck_pos hi, zb_e, zb_e, zn_pos (by omega), zn_pos (by omega), h5, ← hP p (by omega), show (p : Int) + 1 = ((p + 1 : Nat) : Int) by omega]
    have e : (if P p then (1 : Int) else 0) = 0 ↔ P p = false := by
      cases P p <;> simp
    cases hp : P p with
    | false =>
      obtain ⟨v', g1, g2, g3, g4⟩ := q_in hR hq hd hi hP m k (p + 1) (zst v 150 i0 ((zmk P p : Nat) : Int)) (by omega) (by omega) (by rw [n _ 139 (by decide)]; exact h3) (by rw [n _ 137 (by decide)]; exact h4) (by rw [zst_eq, zmk_skip hp])
      refine ⟨v', ?_, g2, fun j hj => by rw [g3 j hj, zst_nj hj], fun a ha => by rw [g4 a ha, n _ a ha]⟩
      rw [← g1, show (0 : Int) = ((0 : Nat) : Int) from rfl, zor_n (zmk_31 (by omega)) (by decide), Nat.or_zero]
      rfl
    | true =>
      obtain ⟨v', g1, g2, g3, g4⟩ := q_in hR hq hd hi hP m k (p + 1) (zst v 150 i0 ((zmk P (p + 1) : Nat) : Int)) (by omega) (by omega) (by rw [n _ 139 (by decide)]; exact h3) (by rw [n _ 137 (by decide)]; exact h4) zst_eq
      refine ⟨v', ?_, g2, fun j hj => by rw [g3 j hj, zst_nj hj], fun a ha => by rw [g4 a ha, n _ a ha]⟩
      rw [← g1, zmk_step (by omega) hp]
      rfl
theorem zQL_skip2_0 {D : Int → Bool} {b : Int} (h0 : 0 ≤ b) (h : ∀ x : Int, 0 ≤ x → x < b → D x = false) : yQL D b.toNat = [] := by
  rw [yQL_skip2 (a := 0) (Int.le_refl _) h0 h]
  rfl
/-- what the reference remembers as it goes from quarter to quarter -/
def zLs (R : Int → Int) (D : Int → Bool) (wk q x2 x3 x4 : Int) : Prop := ((x3 = -1 ∧ zN D q = 0) ∨ (7 * wk ≤ x3 ∧ x3 < 7 * wk + 7 ∧ zQA R x3 ≤ q ∧ (zN D (zQA R x3) : Int) + 1 + x4 = (zN D q : Int) ∧ 0 ≤ x4 ∧ (zQA R (x3 + 1) ≤ q → zN D (zQA R (x3 + 1)) = zN D q))) ∧ ∃ m : Nat, x2 = (m : Int) ∧ m < 128 ∧ ∀ e : Nat, e < 7 → m.testBit e = decide (zN D (zQA R (7 * wk + (e : Int))) < zN D (min q (zQA R (7 * wk + (e : Int) + 1))))
theorem zLs_f {R : Int → Int} {D : Int → Bool} {wk q x2 x3 x4 : Int} (hq : 0 ≤ q) (hD : D q = false) (h : zLs R D wk q x2 x3 x4) : zLs R D wk (q + 1) x2 x3 x4 := by
  have e : zN D (q + 1) = zN D q := congrArg List.length (zN_f hq hD)
  obtain ⟨h1, m, h2, h3, h4⟩ := h
  refine ⟨?_, m, h2, h3, fun b hb => ?_⟩
  · rcases h1 with ⟨a, b⟩ | ⟨a, b, c, d, f, g⟩
    · exact Or.inl ⟨a, by rw [e]; exact b⟩
    · refine Or.inr ⟨a, b, by omega, by rw [e]; exact d, f, fun i => ?_⟩
      by_cases j : zQA R (x3 + 1) ≤ q
      · rw [e]
        exact g j
      · rw [show zQA R (x3 + 1) = q + 1 by omega]
  · rw [h4 b hb]
    have e2 : zN D (min (q + 1) (zQA R (7 * wk + (b : Int) + 1))) = zN D (min q (zQA R (7 * wk + (b : Int) + 1))) := by
      by_cases c : zQA R (7 * wk + (b : Int) + 1) ≤ q
      · rw [show min (q + 1) (zQA R (7 * wk + (b : Int) + 1)) = min q (zQA R (7 * wk + (b : Int) + 1)) by omega]
      · rw [show min (q + 1) (zQA R (7 * wk + (b : Int) + 1)) = q + 1 by omega, show min q (zQA R (7 * wk + (b : Int) + 1)) = q by omega]
        exact e
    rw [e2]
theorem zm63 : ∀ m : Nat, m < 128 → ((m &&& 63 = 63) ↔ (m.testBit 0 = true ∧ m.testBit 1 = true ∧ m.testBit 2 = true ∧ m.testBit 3 = true ∧ m.testBit 4 = true ∧ m.testBit 5 = true)) := by decide +kernel
theorem zLs_t {R : Int → Int} (hR : zWk R) {D : Int → Bool} {wk q d x2 x3 x4 : Int} (hwk : 0 ≤ wk ∧ wk ≤ 3) (hq : 0 ≤ q) (hD : D q = true) (hd : zQA R d ≤ q ∧ q < zQA R (d + 1)) (hd2 : 7 * wk ≤ d ∧ d < 7 * wk + 7) (h : zLs R D wk q x2 x3 x4) : (if d = x3 then x4 + 1 else 0) = (zN D q : Int) - (zN D (zQA R d) : Int) ∧ zLs R D wk (q + 1) (zor x2 (zshl 1 (Int.tmod d 7))) d ((zN D q : Int) - (zN D (zQA R d) : Int)) ∧ (decide (d % 7 = 6) && decide (zand (zor x2 (zshl 1 (Int.tmod d 7))) 63 = 63)) = zSev R D wk d := by
  have e := zN_t1 hq hD
  obtain ⟨h1, m, h2, h3, h4⟩ := h
  have m1 := zN_mono (D := D) hd.1
  have m2 := zN_mono (D := D) (show q + 1 ≤ zQA R (d + 1) by omega)
  have hod : (if d = x3 then x4 + 1 else 0) = (zN D q : Int) - (zN D (zQA R d) : Int) := by
    rcases h1 with ⟨a, b⟩ | ⟨a, b, c, f, g, i⟩
    · rw [if_neg (by omega)]
      omega
    · by_cases k : d = x3
      · rw [if_pos k, k]
        omega
      · rw [if_neg k]
        have k2 : x3 < d := by
          rcases Int.lt_trichotomy x3 d with k3 | k3 | k3
          · exact k3
          · omega
          · have := zQA_mono (R := R) (show d + 1 ≤ x3 by omega)
            omega
        have k4 := zQA_mono (R := R) (show x3 + 1 ≤ d by omega)
        have k5 := i (by omega)
        have k6 := zN_mono (D := D) k4
        omega
  have ed : (7 * wk + ((d - 7 * wk).toNat : Int)) = d := by omega
  have et : Int.tmod d 7 = (((d - 7 * wk).toNat : Nat) : Int) := by
    rw [Int.tmod_eq_emod_of_nonneg (by omega)]
    omega
  have e0 : (d - 7 * wk).toNat < 7 := by omega
  have hz : zor x2 (zshl 1 (Int.tmod d 7)) = ((m ||| 2 ^ (d - 7 * wk).toNat : Nat) : Int) := by
    have hp : 2 ^ (d - 7 * wk).toNat < 2 ^ 31 := Nat.pow_lt_pow_right (by decide) (by omega)
    rw [et, h2, show (1 : Int) = ((1 : Nat) : Int) from rfl, zshl_n (by omega) (by rw [Nat.one_mul]; exact hp), Nat.one_mul, zor_n (by omega) hp]
  have hm : m ||| 2 ^ (d - 7 * wk).toNat < 128 := Nat.or_lt_two_pow (n := 7) h3 (Nat.pow_lt_pow_right (by decide) e0)
  have hbit : ∀ b : Nat, b < 7 → (m ||| 2 ^ (d - 7 * wk).toNat).testBit b = decide (zN D (zQA R (7 * wk + (b : Int))) < zN D (min (q + 1) (zQA R (7 * wk + (b : Int) + 1)))) := fun b hb => by
    rw [Nat.testBit_or, h4 b hb]
    rcases Nat.lt_trichotomy b (d - 7 * wk).toNat with c | c | c
    · have k1 := zQA_mono (R := R) (show 7 * wk + (b : Int) + 1 ≤ d by omega)
      rw [Nat.testBit_two_pow_of_ne (by omega), Bool.or_false, show min (q + 1) (zQA R (7 * wk + (b : Int) + 1)) = min q (zQA R (7 * wk + (b : Int) + 1)) by omega]
    · rw [c, Nat.testBit_two_pow_self, Bool.or_true, ed, show min (q + 1) (zQA R (d + 1)) = q + 1 by omega]
      exact (decide_eq_true (by omega)).symm
    · have k1 := zQA_mono (R := R) (show d + 1 ≤ 7 * wk + (b : Int) by omega)
      have k2 := zQA_up (R := R) (7 * wk + (b : Int))
      have k3 := zN_mono (D := D) (show q + 1 ≤ zQA R (7 * wk + (b : Int)) by omega)
      rw [Nat.testBit_two_pow_of_ne (by omega), Bool.or_false, show min (q + 1) (zQA R (7 * wk + (b : Int) + 1)) = q + 1 by omega, show min q (zQA R (7 * wk + (b : Int) + 1)) = q by omega, decide_eq_false (by omega), decide_eq_false (by omega)]
  refine ⟨hod, ⟨Or.inr ⟨hd2.1, hd2.2, by omega, by omega, by omega, fun i => ?_⟩, _, hz, hm, hbit⟩, ?_⟩
  · rw [show zQA R (d + 1) = q + 1 by omega]
  · unfold zSev
    have e6 : (decide (d % 7 = 6)) = decide (d = 7 * wk + 6) := by
      by_cases c : d = 7 * wk + 6
      · rw [decide_eq_true c, decide_eq_true (by omega)]
      · rw [decide_eq_false c, decide_eq_false (by omega)]
    rw [e6]
    by_cases c : d = 7 * wk + 6
    · rw [decide_eq_true c, Bool.true_and, Bool.true_and, hz, show (63 : Int) = ((63 : Nat) : Int) from rfl, zand_n (by omega)]
      have key : (((m ||| 2 ^ (d - 7 * wk).toNat) &&& 63 : Nat) : Int) = ((63 : Nat) : Int) ↔ zDw R D wk 6 = 6 := by
        rw [show (zDw R D wk 6 = 6) = (zDw R D wk 6 = ((6 : Nat) : Int)) from rfl, zDw_all 6]
        constructor
        · intro k
          have k2 := (zm63 _ hm).mp (by omega)
          intro f hf
          have k3 : (m ||| 2 ^ (d - 7 * wk).toNat).testBit f = true := by
            have : f = 0 ∨ f = 1 ∨ f = 2 ∨ f = 3 ∨ f = 4 ∨ f = 5 := by omega
            rcases this with rfl | rfl | rfl | rfl | rfl | rfl
            · exact k2.1
            · exact k2.2.1
            · exact k2.2.2.1
            · exact k2.2.2.2.1
            · exact k2.2.2.2.2.1
            · exact k2.2.2.2.2.2
          rw [hbit f (by omega)] at k3
          have k4 := of_decide_eq_true k3
          have k5 := zQA_mono (R := R) (show 7 * wk + (f : Int) + 1 ≤ d by omega)
          rw [show min (q + 1) (zQA R (7 * wk + (f : Int) + 1)) = zQA R (7 * wk + (f : Int) + 1) by omega] at k4
          exact k4
        · intro k
          have hb : ∀ f : Nat, f < 6 → (m ||| 2 ^ (d - 7 * wk).toNat).testBit f = true := fun f hf => by
            have k5 := zQA_mono (R := R) (show 7 * wk + (f : Int) + 1 ≤ d by omega)
            rw [hbit f (by omega), show min (q + 1) (zQA R (7 * wk + (f : Int) + 1)) = zQA R (7 * wk + (f : Int) + 1) by omega]
            exact decide_eq_true (k f hf)
          have k2 := (zm63 _ hm).mpr ⟨hb 0 (by decide), hb 1 (by decide), hb 2 (by decide), hb 3 (by decide), hb 4 (by decide), hb 5 (by decide)⟩
          omega
      by_cases k : zDw R D wk 6 = 6
      · rw [decide_eq_true k, decide_eq_true (key.mpr k)]
      · rw [decide_eq_false k, decide_eq_false (fun h => k (key.mp h))]
    · rw [decide_eq_false c, Bool.false_and, Bool.false_and]
theorem zBi_255 {R : Int → Int} (hR : zWR R) {D : Int → Bool} {wk q : Int} : zBi R D 255 wk q = zmk (fun p => zMy R (zHq R q) ((zN D q : Int) - (zN D (zQA R (zDy R q)) : Int)) (zSev R D wk (zDy R q)) (zHol R (zDy R q)) p) (R 10).toNat := by
  have h8 := hR.2.2.1
  unfold zBi
  apply zmk_cong
  intro i hi
  have : ∀ i : Nat, i < 8 → Nat.testBit 255 i = true := by decide
  rw [this i (by omega), Bool.and_true]
/-- a week's list, as the reference has it -/
def zWkM (R : Int → Int) (D : Int → Bool) (wk q : Int) (v : zHp) : Prop := v 137 23 = (zN D q : Int) ∧ ∀ i : Nat, i < zN D q → v 149 (i : Int) = (yQL D q.toNat).getD i 0 ∧ v 150 (i : Int) = ((zBi R D 255 wk ((yQL D q.toNat).getD i 0) : Nat) : Int)
theorem q_out {R : Int → Int} (hR : zWR R) {ps : List zP2} (hps : zPok R ps) {wk : Int} (hwk : 0 ≤ wk ∧ wk ≤ 3) : ∀ (m fu q : Nat) (v : zHp) (x2 x3 x4 : Int), q + m = 2720 → m < fu → v 139 = R → (∀ x : Int, 0 ≤ x → x < 2720 → v 148 x = if zWd ps x then 1 else 0) → zWkM R (zD R ps wk) wk (q : Int) v → zLs R (zD R ps wk) wk (q : Int) x2 x3 x4 → ∃ v', fX12_laysQuarters_L15 fu v wk x2 x3 x4 (q : Int) = some (v', 0) ∧ zWkM R (zD R ps wk) wk 2720 v' ∧ (∀ a, a ≠ 149 → a ≠ 150 → a ≠ 137 → v' a = v a) ∧ ∀ j, j ≠ 23 → v' 137 j = v 137 j
  | 0, fu, q, v, x2, x3, x4, h1, h2, h3, h4, h5, h6 => by
    obtain ⟨k, rfl⟩ : ∃ k, fu = k + 1 := ⟨fu - 1, by omega⟩
    refine ⟨v, ?_, by rw [show (2720 : Int) = (q : Int) by omega]; exact h5, fun a _ _ _ => rfl, fun j _ => rfl⟩
    rw [fX12_laysQuarters_L15.eq_2, if_pos (by omega)]
  | m + 1, fu, q, v, x2, x3, x4, h1, h2, h3, h4, h5, h6 => by
    obtain ⟨k, rfl⟩ : ∃ k, fu = k + 1 := ⟨fu - 1, by omega⟩
    have e1 : (q : Int) + 1 = ((q + 1 : Nat) : Int) := by omega
    have hskip : zD R ps wk (q : Int) = false → ∃ v', fX12_laysQuarters_L15 k v wk x2 x3 x4 ((q + 1 : Nat) : Int) = some (v', 0) ∧ zWkM R (zD R ps wk) wk 2720 v' ∧ (∀ a, a ≠ 149 → a ≠ 150 → a ≠ 137 → v' a = v a) ∧ ∀ j, j ≠ 23 → v' 137 j = v 137 j := fun hD => by
      have hn := zN_f (D := zD R ps wk) (show 0 ≤ (q : Int) by omega) hD
      have h7 := zLs_f (show 0 ≤ (q : Int) by omega) hD h6
      rw [e1] at hn h7
      refine q_out hR hps hwk m k (q + 1) v x2 x3 x4 (by omega) (by omega) h3 h4 ?_ h7
      unfold zWkM zN at h5 ⊢
      rw [hn]
      exact h5
    have hq4 := h4 (q : Int) (by omega) (by omega)
    rw [fX12_laysQuarters_L15.eq_2, if_neg (by omega), zck_pos (by omega), hq4]
    by_cases hw : zWd ps (q : Int) = true
    · have hb := zWd_b hps hw
      have hd := zDy_in hR.1 hb
      have hd0 := zDy_b hR.1 hb
      rw [hw, if_neg (by simp), m_dayOf (by rw [h3]; exact hR.1) (by rw [h3]; exact hb), zcl_e, h3, Int.tdiv_eq_ediv_of_nonneg hd0.1]
      by_cases hwd : zDy R (q : Int) / 7 = wk
      · rw [if_neg (by omega), m_dayOf (by rw [h3]; exact hR.1) (by rw [h3]; exact hb), zcl_e, h3]
        have k1 := zQA_mono (R := R) (show 7 * wk ≤ zDy R (q : Int) by omega)
        have k2 := zQA_mono (R := R) (show zDy R (q : Int) + 1 ≤ 7 * wk + 7 by omega)
        have hD : zD R ps wk (q : Int) = true := zD_iff.mpr ⟨hw, by omega, by omega⟩
        obtain ⟨t1, t2, t3⟩ := zLs_t hR.1 hwk (show 0 ≤ (q : Int) by omega) hD hd (by omega) h6
        have hgap : (zN (zD R ps wk) (q : Int) : Int) ≤ 676 := by
          have g0 : ∀ x : Int, 0 ≤ x → x < zQA R (7 * wk) → zD R ps wk x = false := fun x _ a => Bool.eq_false_iff.mpr fun b => by
            have := (zD_iff.mp b).2.1
            omega
          have z0 := zQA_mono (R := R) (show 0 ≤ 7 * wk by omega)
          rw [zQA_0 hR.1] at z0
          have g1 : zN (zD R ps wk) (zQA R (7 * wk)) = 0 := by
            show (yQL (zD R ps wk) (zQA R (7 * wk)).toNat).length = 0
            rw [zQL_skip2_0 z0 g0]
            rfl
          have g2 := zN_gap (D := zD R ps wk) z0 (show zQA R (7 * wk) ≤ (q : Int) by omega)
          have g3 := @zQA_b R (7 * wk)
          have g4 : zQA R (7 * wk + 7) ≤ zQA R (7 * wk) + 676 := by
            unfold zQA
            repeat' split
            all_goals omega
          omega
        have hinn := zN_t (D := zD R ps wk) (show 0 ≤ (q : Int) by omega) hD
        have hinl := zN_t1 (D := zD R ps wk) (show 0 ≤ (q : Int) by omega) hD
        rw [e1] at hinn hinl t2
        have hone : ∀ g : Int, g = (zN (zD R ps wk) (q : Int) : Int) - (zN (zD R ps wk) (zQA R (zDy R (q : Int))) : Int) → ∃ v', fX12_laysQuarters_J68 (fX12_laysQuarters_L15 k) v wk x2 (q : Int) (zDy R (q : Int)) g = some (v', 0) ∧ zWkM R (zD R ps wk) wk 2720 v' ∧ (∀ a, a ≠ 149 → a ≠ 150 → a ≠ 137 → v' a = v a) ∧ ∀ j, j ≠ 23 → v' 137 j = v 137 j := fun g hg => by
          obtain ⟨l1, l2⟩ := h5
          unfold fX12_laysQuarters_J68
          rw [l1, zck_pos (by omega), zb_e, zst_na (by decide), l1, zck_pos (by omega), zb_e]
          have n1 : ∀ a, a ≠ 149 → a ≠ 150 → zst (zst v 149 (zN (zD R ps wk) (q : Int) : Int) (q : Int)) 150 (zN (zD R ps wk) (q : Int) : Int) 0 a = v a := fun a a1 a2 => by
            funext j
            rw [zst_na a2, zst_na a1]
          have r1 : ∀ j, zst (zst v 149 (zN (zD R ps wk) (q : Int) : Int) (q : Int)) 150 (zN (zD R ps wk) (q : Int) : Int) 0 149 j = if j = (zN (zD R ps wk) (q : Int) : Int) then (q : Int) else v 149 j := fun j => by rw [zst_na (by decide), zst_if]
          have r2 : ∀ j, zst (zst v 149 (zN (zD R ps wk) (q : Int) : Int) (q : Int)) 150 (zN (zD R ps wk) (q : Int) : Int) 0 150 j = if j = (zN (zD R ps wk) (q : Int) : Int) then 0 else v 150 j := fun j => by rw [zst_if, zst_na (by decide)]
          generalize zst (zst v 149 (zN (zD R ps wk) (q : Int) : Int) (q : Int)) 150 (zN (zD R ps wk) (q : Int) : Int) 0 = u at n1 r1 r2 ⊢
          obtain ⟨y, y1, y2, y3, y4⟩ := q_in (x1 := wk) (x3 := zDy R (q : Int)) hR hb hd0.1 (show 0 ≤ (zN (zD R ps wk) (q : Int) : Int) ∧ (zN (zD R ps wk) (q : Int) : Int) < 680 by omega) (P := fun p => zMy R (zHq R (q : Int)) g (zSev R (zD R ps wk) wk (zDy R (q : Int))) (zHol R (zDy R (q : Int))) p) (od := g) (days := zor x2 (zshl 1 (Int.tmod (zDy R (q : Int)) 7))) (fun p _ => by
            show zMy _ _ _ _ _ p = _
            rw [t3]) (R 10).toNat zFU 0 u (by omega) (zFU_lt (by have := hR.2.2.1; omega)) (by rw [n1 139 (by decide) (by decide)]; exact h3) (by rw [n1 137 (by decide) (by decide)]; exact l1) (by rw [r2, if_pos rfl]; rfl)
          rw [show (0 : Int) = ((0 : Nat) : Int) from rfl, y1, zl_e, y4 137 (by decide), n1 137 (by decide) (by decide), l1, zn_pos (by omega), zb_e, zn_pos (by omega), e1]
          have ny : ∀ a, a ≠ 149 → a ≠ 150 → a ≠ 137 → zst y 137 23 ((zN (zD R ps wk) (q : Int) : Int) + 1) a = v a := fun a a1 a2 a3 => by
            funext j
            rw [zst_na a3, y4 a a2, n1 a a1 a2]
          obtain ⟨v', w1, w2, w3, w4⟩ := q_out hR hps hwk m k (q + 1) (zst y 137 23 ((zN (zD R ps wk) (q : Int) : Int) + 1)) (zor x2 (zshl 1 (Int.tmod (zDy R (q : Int)) 7))) (zDy R (q : Int)) g (by omega) (by omega) (by rw [ny 139 (by decide) (by decide) (by decide)]; exact h3) (by rw [ny 148 (by decide) (by decide) (by decide)]; exact h4) (by
            refine ⟨by rw [zst_eq, hinl]; rfl, fun i hi => ?_⟩
            rw [zst_na (by decide), zst_na (by decide), y4 149 (by decide), r1, hinn]
            rw [hinl] at hi
            by_cases c : i = zN (zD R ps wk) (q : Int)
            · rw [if_pos (by omega), c, y2]
              have e5 : (yQL (zD R ps wk) (q : Int).toNat ++ [(q : Int)]).getD (zN (zD R ps wk) (q : Int)) 0 = (q : Int) := sn_eq
              rw [e5, zBi_255 hR, hg]
              exact ⟨rfl, rfl⟩
            · rw [if_neg (by omega), y3 _ (by omega), r2, if_neg (by omega)]
              rw [sn_lt (show i < (yQL (zD R ps wk) (q : Int).toNat).length by show i < zN (zD R ps wk) (q : Int); omega)]
              exact l2 i (by omega)) (by rw [hg]; exact t2)
          exact ⟨v', w1, w2, fun a a1 a2 a3 => by rw [w3 a a1 a2 a3, ny a a1 a2 a3], fun j hj => by rw [w4 j hj, zst_nj hj, y4 137 (by decide), n1 137 (by decide) (by decide)]⟩
        by_cases c : zDy R (q : Int) = x3
        · rw [if_neg (by omega)]
          rw [if_pos c] at t1
          have mono1 := zN_mono (D := zD R ps wk) hd.1
          rw [zn_pos (by omega)]
          exact hone _ t1
        · rw [if_pos c]
          rw [if_neg c] at t1
          exact hone _ t1
      · rw [if_pos hwd, zn_pos (by omega), e1]
        refine hskip (Bool.eq_false_iff.mpr fun b => ?_)
        obtain ⟨_, b1, b2⟩ := zD_iff.mp b
        have k1 : 7 * wk ≤ zDy R (q : Int) := by
          by_cases c : 7 * wk ≤ zDy R (q : Int)
          · exact c
          · have := zQA_mono (R := R) (show zDy R (q : Int) + 1 ≤ 7 * wk by omega)
            omega
        have k2 : zDy R (q : Int) < 7 * wk + 7 := by
          by_cases c : zDy R (q : Int) < 7 * wk + 7
          · exact c
          · have := zQA_mono (R := R) (show 7 * wk + 7 ≤ zDy R (q : Int) by omega)
            omega
        omega
    · have hw2 : zWd ps (q : Int) = false := Bool.eq_false_iff.mpr hw
      rw [hw2, if_pos (by simp), zn_pos (by omega), e1]
      exact hskip (Bool.eq_false_iff.mpr fun b => hw (zD_iff.mp b).1)
theorem m_laysQuarters {v : zHp} {R : Int → Int} (hR : zWR R) {ps : List zP2} (hps : zPok R ps) {wk : Int} (hwk : 0 ≤ wk ∧ wk ≤ 3) (h3 : v 139 = R) (h4 : ∀ x : Int, 0 ≤ x → x < 2720 → v 148 x = if zWd ps x then 1 else 0) : ∃ v', fX12_laysQuarters v wk = some (v', 0) ∧ zWkM R (zD R ps wk) wk 2720 v' ∧ (∀ a, a ≠ 149 → a ≠ 150 → a ≠ 137 → v' a = v a) ∧ ∀ j, j ≠ 23 → v' 137 j = v 137 j := by
  have n : ∀ a, a ≠ 137 → zst v 137 23 0 a = v a := fun a ha => by funext j; exact zst_na ha
  obtain ⟨v', w1, w2, w3, w4⟩ := q_out hR hps hwk 2720 zFU 0 (zst v 137 23 0) 0 (-1) 0 rfl (zFU_lt (by decide)) (by rw [n 139 (by decide)]; exact h3) (by rw [n 148 (by decide)]; exact h4) ⟨zst_eq, fun i h => absurd h (Nat.not_lt_zero _)⟩ ⟨Or.inl ⟨rfl, rfl⟩, 0, rfl, by decide, fun e he => by
    have z0 := zQA_mono (R := R) (show 0 ≤ 7 * wk + (e : Int) + 1 by omega)
    rw [zQA_0 hR.1] at z0
    rw [show min ((0 : Nat) : Int) (zQA R (7 * wk + (e : Int) + 1)) = 0 by omega, Nat.zero_testBit]
    exact (decide_eq_false (Nat.not_lt_zero _)).symm⟩
  refine ⟨v', ?_, w2, fun a a1 a2 a3 => by rw [w3 a a1 a2 a3, n a a3], fun j hj => by rw [w4 j hj, zst_nj hj]⟩
  unfold fX12_laysQuarters
  rw [zb_e, show (0 : Int) = ((0 : Nat) : Int) from rfl]
  rw [show ((0 : Nat) : Int) = 0 from rfl] at w1 ⊢
  rw [w1]
  rfl
