/-! PURE: the rules as a row R of numbers, and the clock, both sides. My own text. -/
def zTurn (R : Int → Int) : Int := 1440 * R 5 + 60 * R 6
def zShift (R : Int → Int) : Int := if R 7 = 1 then -60 else if R 7 = 0 then 60 else 0
def zWk (R : Int → Int) : Prop := (R 5 = -1 ∧ R 6 = -1 ∧ R 7 = -1) ∨ (0 ≤ R 5 ∧ R 5 ≤ 27 ∧ 0 ≤ R 6 ∧ R 6 ≤ 23 ∧ (R 7 = 0 ∨ R 7 = 1))
/-- the rules' numbers are in their bounds -/
def zWR (R : Int → Int) : Prop := zWk R ∧ (0 ≤ R 0 ∧ R 0 ≤ 14 ∧ 0 ≤ R 1 ∧ R 1 ≤ 96 ∧ 0 ≤ R 2 ∧ R 2 ≤ 16 ∧ 1 ≤ R 3 ∧ R 3 ≤ 24 ∧ 1 ≤ R 4 ∧ R 4 ≤ 400) ∧ (0 ≤ R 9 ∧ R 9 ≤ 4 ∧ 0 ≤ R 10 ∧ R 10 ≤ 8 ∧ 0 ≤ R 8 ∧ R 8 < 268435456) ∧ ∀ p : Nat, (p : Int) < R 10 → 0 ≤ R (11 + 5 * (p : Int) + 0) ∧ R (11 + 5 * (p : Int) + 0) ≤ 4 ∧ 1 ≤ R (11 + 5 * (p : Int) + 1) ∧ R (11 + 5 * (p : Int) + 1) ≤ 300 ∧ (R (11 + 5 * (p : Int) + 2) = 0 ∨ R (11 + 5 * (p : Int) + 2) = 1) ∧ -1 ≤ R (11 + 5 * (p : Int) + 3) ∧ R (11 + 5 * (p : Int) + 3) ≤ 672 ∧ -1 ≤ R (11 + 5 * (p : Int) + 4) ∧ R (11 + 5 * (p : Int) + 4) ≤ 23
/-- the class's clock -/
def zCK (k : Nat) (v : zHp) (R : Int → Int) : Prop := v k 0 = R 5 ∧ v k 1 = R 6 ∧ v k 2 = R 7 ∧ v k 3 = zTurn R ∧ v k 4 = zShift R
def zRV (ru : Nat) (v : zHp) : Prop := v 0 2 = (ru : Int) ∧ (ru = 4 ∨ ru = 16)
theorem c_ru {α : Type} {ru : Nat} {v : zHp} (h : zRV ru v) (k : Nat → Option α) : (zb (v 0 2).toNat fun u => zck (0 ≤ v 0 2 ∧ zK u = (7, 10)) (k u)) = k ru := by
  obtain ⟨h1, h2⟩ := h
  have hn : (v 0 2).toNat = ru := by rw [h1]; rfl
  show zck (0 ≤ v 0 2 ∧ zK (v 0 2).toNat = (7, 10)) (k (v 0 2).toNat) = _
  rw [hn, zck_pos]
  refine ⟨by omega, ?_⟩
  rcases h2 with rfl | rfl <;> rfl
theorem zTurn_b {R : Int → Int} (h : zWk R) : -1500 ≤ zTurn R ∧ zTurn R ≤ 40260 := by
  unfold zTurn
  unfold zWk at h
  omega
/-- the moment of a day, a minute -/
def zMo (R : Int → Int) (d m a : Int) : Int := if d < 0 ∨ 27 < d ∨ m < 0 ∨ 1439 < m then -1 else if R 5 = -1 then (if a = 0 then 1440 * d + m else -1) else if zTurn R ≤ 1440 * d + m ∧ 1440 * d + m < zTurn R + 60 then (if R 7 = 1 then -1 else if a = 0 then 1440 * d + m else 1440 * d + m + 60) else if a = 0 then (if 1440 * d + m < zTurn R then 1440 * d + m else if R 7 = 1 then 1440 * d + m - 60 else 1440 * d + m + 60) else -1
/-- what is told at a moment -/
def zTo (R : Int → Int) (m : Int) : Int := if R 5 = -1 then m else if R 7 = 1 then (if m < zTurn R then m else m + 60) else if m < zTurn R + 60 then m else m - 60
/-- quarters ahead of a day -/
def zQA (R : Int → Int) (d : Int) : Int := 96 * d + (if R 5 < d then (if R 7 = 1 then -4 else if R 7 = 0 then 4 else 0) else 0)
theorem zpe {v : zHp} {x y : Int} (h : x = y) : (some (v, x) : Option (zHp × Int)) = some (v, y) := by rw [h]
theorem c_momentAt {k : Nat} {v : zHp} {R : Int → Int} (h : zCK k v R) (hR : zWk R) (d m a : Int) : fX2_momentAt v k d m a = some (v, zMo R d m a) := by
  obtain ⟨h0, h1, h2, h3, h4⟩ := h
  have hb := zTurn_b hR
  unfold fX2_momentAt fX2_momentAt_J88 zMo
  rw [h2, h3, h4]
  by_cases c : d < 0 ∨ 27 < d ∨ m < 0 ∨ 1439 < m
  · rw [if_pos c]
    repeat' split
    all_goals first | rfl | (exfalso; omega)
  · rw [if_neg c, if_neg (by omega), if_neg (by omega), if_neg (by omega), if_pos (by omega), zn_pos (by omega), show d * 1440 + m = 1440 * d + m by omega]
    rcases hR with ⟨a1, a2, a3⟩ | ⟨a1, a2, a3, a4, a5⟩
    · rw [a3, a1]
      simp only [if_true]
      by_cases ca : a = 0
      · rw [if_pos ca, if_pos ca]
      · rw [if_neg ca, if_neg ca]
    · rw [if_neg (by omega : ¬ R 7 = -1), if_neg (by omega : ¬ R 7 = -1), if_neg (by omega : ¬ R 5 = -1)]
      unfold zShift
      by_cases c1 : 1440 * d + m < zTurn R
      · rw [if_pos c1, if_neg (by omega : ¬ (zTurn R ≤ 1440 * d + m ∧ 1440 * d + m < zTurn R + 60))]
        simp only [if_pos c1, if_neg (by omega : ¬ zTurn R ≤ 1440 * d + m)]
        by_cases ca : a = 0
        · rw [if_pos ca, if_pos ca]
        · rw [if_neg ca, if_neg ca]
      · rw [if_neg c1, zn_pos (by omega)]
        by_cases c2 : 1440 * d + m < zTurn R + 60
        · rw [if_neg (by omega), if_pos (by omega : zTurn R ≤ 1440 * d + m ∧ 1440 * d + m < zTurn R + 60)]
          by_cases c3 : R 7 = 1
          · rw [if_neg (by omega), if_pos c3]
          · rw [if_pos c3, if_neg c3]
            by_cases ca : a = 0
            · rw [if_pos ca, if_pos ca]
            · rw [if_neg ca, if_neg ca, zn_pos (by omega)]
        · rw [if_pos (by omega), if_neg (by omega : ¬ (zTurn R ≤ 1440 * d + m ∧ 1440 * d + m < zTurn R + 60))]
          by_cases ca : a = 0
          · rw [if_pos ca, if_pos ca, if_neg c1, if_pos (by omega)]
            by_cases c3 : R 7 = 1
            · rw [if_pos c3, if_pos c3, zn_pos (by omega)]
              exact zpe (by omega)
            · rw [if_neg c3, if_neg c3, if_pos (by omega), zn_pos (by omega)]
          · rw [if_neg ca, if_neg ca]
theorem z10 : ((1 : Int) = 0) = False := eq_false (by decide)
theorem m_turned {v : zHp} (hR : zWk (v 139)) : fX12_turned v = some (v, zTurn (v 139)) := by
  have hb := zTurn_b hR
  unfold zTurn at hb
  unfold fX12_turned
  rw [zck_pos (by decide), zck_pos (by decide), zn_pos (by omega)]
  rfl
theorem m_within (v : zHp) (x a b : Int) : fX12_within v x a b = some (v, if a ≤ x ∧ x ≤ b then 1 else 0) := by
  unfold fX12_within
  repeat' split
  all_goals first | rfl | (exfalso; omega)
theorem m_momentOf {v : zHp} (hR : zWk (v 139)) (d m a : Int) : fX12_momentOf v d m a = some (v, zMo (v 139) d m a) := by
  have hb := zTurn_b hR
  unfold fX12_momentOf zMo
  rw [m_within, zcl_e]
  by_cases c : d < 0 ∨ 27 < d ∨ m < 0 ∨ 1439 < m
  · rw [if_pos c]
    by_cases c1 : 0 ≤ d ∧ d ≤ 27
    · rw [if_pos c1, if_neg (by decide), m_within, zcl_e, if_neg (by omega : ¬ (0 ≤ m ∧ m ≤ 1439)), if_neg (by decide)]
    · rw [if_neg c1, if_pos rfl]
  · rw [if_neg c, if_pos (by omega : 0 ≤ d ∧ d ≤ 27), if_neg (by decide), m_within, zcl_e, if_pos (by omega : 0 ≤ m ∧ m ≤ 1439), if_pos (by decide), zn_pos (by omega), zck_pos (by decide)]
    unfold fX12_momentOf_J47 fX12_momentOf_J79 fX12_momentOf_J80
    have hR2 := hR
    unfold zWk at hR2
    simp only [m_turned hR, zcl_e, zck_pos (show 0 ≤ (7 : Int) ∧ (7 : Int) < 51 by decide)]
    simp only [zn, if_true, if_false, z10, ne_eq, not_true, not_false_iff]
    repeat' split
    all_goals first | rfl | (exfalso; omega)
theorem c_toldAt {k : Nat} {v : zHp} {R : Int → Int} (h : zCK k v R) (hR : zWk R) {m : Int} (hm : 0 ≤ m ∧ m ≤ 1000000) : fX2_toldAt v k m = some (v, zTo R m) := by
  obtain ⟨h0, h1, h2, h3, h4⟩ := h
  have hb := zTurn_b hR
  unfold fX2_toldAt zTo
  rw [h2, h3, zn_pos (by omega), zn_pos (by omega), zn_pos (by omega)]
  unfold zWk at hR
  repeat' split
  all_goals first | rfl | (exfalso; omega)
theorem m_toldJ (v : zHp) (m b : Int) : fX12_toldAt_J73 v m b = some (v, if 0 ≤ m ∧ 0 ≤ b ∧ b ≤ 40319 then b else -1) := by
  unfold fX12_toldAt_J73
  rw [m_within, zcl_e]
  by_cases h : 0 ≤ b ∧ b ≤ 40319
  · rw [if_pos h, if_neg (by decide)]
    by_cases h2 : m < 0
    · rw [if_pos h2, if_neg (by omega)]
    · rw [if_neg h2, if_pos (by omega)]
  · rw [if_neg h, if_pos rfl, if_neg (by omega)]
theorem m_toldAt {v : zHp} (hR : zWk (v 139)) {m : Int} (hm : -1000000 ≤ m ∧ m ≤ 1000000) : fX12_toldAt v m = some (v, if 0 ≤ m ∧ 0 ≤ zTo (v 139) m ∧ zTo (v 139) m ≤ 40319 then zTo (v 139) m else -1) := by
  have hb := zTurn_b hR
  unfold fX12_toldAt fX12_toldAt_J43 fX12_toldAt_J39 fX12_toldAt_J72
  simp only [m_turned hR, zcl_e, m_toldJ, zck_pos (show 0 ≤ (5 : Int) ∧ (5 : Int) < 51 by decide), zck_pos (show 0 ≤ (7 : Int) ∧ (7 : Int) < 51 by decide)]
  rw [zn_pos (by omega : -2147483648 ≤ zTurn (v 139) + 60 ∧ zTurn (v 139) + 60 ≤ 2147483647), zn_pos (by omega : -2147483648 ≤ m - 60 ∧ m - 60 ≤ 2147483647), zn_pos (by omega : -2147483648 ≤ m + 60 ∧ m + 60 ≤ 2147483647)]
  by_cases c5 : v 139 5 = -1
  · rw [if_pos c5, if_pos c5, show zTo (v 139) m = m by unfold zTo; rw [if_pos c5]]
  rw [if_neg c5, if_neg c5]
  by_cases c7 : v 139 7 = 1
  · rw [if_neg (by omega)]
    by_cases c8 : m < zTurn (v 139)
    · rw [if_neg (by omega), show zTo (v 139) m = m by unfold zTo; rw [if_neg c5, if_pos c7, if_pos c8]]
    · rw [if_pos (by omega), show zTo (v 139) m = m + 60 by unfold zTo; rw [if_neg c5, if_pos c7, if_neg c8]]
  · rw [if_pos c7]
    by_cases c8 : m < zTurn (v 139) + 60
    · rw [if_neg (by omega), show zTo (v 139) m = m by unfold zTo; rw [if_neg c5, if_neg c7, if_pos c8]]
    · rw [if_pos (by omega), show zTo (v 139) m = m - 60 by unfold zTo; rw [if_neg c5, if_neg c7, if_neg c8]]
theorem c_momentsAhead {k : Nat} {v : zHp} {R : Int → Int} (h : zCK k v R) (hR : zWk R) {d : Int} (hd : 0 ≤ d ∧ d ≤ 28) : fX2_momentsAhead v k d = some (v, 15 * zQA R d) := by
  obtain ⟨h0, h1, h2, h3, h4⟩ := h
  unfold fX2_momentsAhead zQA
  rw [h0, h4]
  unfold zShift
  unfold zWk at hR
  repeat' split
  all_goals (try (exfalso; omega))
  all_goals (rw [zn_pos (by omega)]; exact zpe (by omega))
theorem zQA_b {R : Int → Int} {d : Int} : 96 * d - 4 ≤ zQA R d ∧ zQA R d ≤ 96 * d + 4 := by
  unfold zQA
  repeat' split
  all_goals omega
theorem zQA_0 {R : Int → Int} (hR : zWk R) : zQA R 0 = 0 := by
  unfold zQA
  unfold zWk at hR
  repeat' split
  all_goals omega
theorem zQA_up {R : Int → Int} (d : Int) : zQA R d + 92 ≤ zQA R (d + 1) ∧ zQA R (d + 1) ≤ zQA R d + 100 := by
  unfold zQA
  repeat' split
  all_goals omega
theorem c_quartersAhead {k : Nat} {v : zHp} {R : Int → Int} (h : zCK k v R) (hR : zWk R) {d : Int} (hd : 0 ≤ d ∧ d ≤ 28) : fX2_quartersAhead v k d = some (v, zQA R d) := by
  unfold fX2_quartersAhead
  rw [c_momentsAhead h hR hd, zcl_e]
  exact zpe (Int.mul_tdiv_cancel_left _ (by decide))
theorem c_isAgain {k : Nat} {v : zHp} {R : Int → Int} (h : zCK k v R) (hR : zWk R) (m : Int) : fX2_isAgain v k m = some (v, if R 7 = 0 ∧ zTurn R + 60 ≤ m ∧ m < zTurn R + 120 then 1 else 0) := by
  obtain ⟨h0, h1, h2, h3, h4⟩ := h
  have hb := zTurn_b hR
  unfold fX2_isAgain
  rw [h2, h3, zn_pos (by omega), zn_pos (by omega)]
  repeat' split
  all_goals first | rfl | (exfalso; omega)
theorem zTo_in {R : Int → Int} (hR : zWk R) {m : Int} (hm : 0 ≤ m) : (0 ≤ zTo R m ∧ zTo R m ≤ 40319) ↔ m < 15 * zQA R 28 := by
  have hb := zTurn_b hR
  unfold zTo zQA
  unfold zTurn at *
  unfold zWk at hR
  repeat' split
  all_goals omega
/-- moment, both sides -/
theorem c_moment {ru : Nat} {vC vM : zHp} (h : zRV ru vC) (hk : zCK (ru + 1) vC (vM 139)) (hR : zWk (vM 139)) (d m a : Int) : ∃ r, fX11_moment vC d m a = some (vC, r) ∧ fX12_moment vM d m a = some (zst vM 137 0 0, r) := by
  have e : (zst vM 137 0 0) 139 = vM 139 := by funext j; exact zst_na (by decide)
  refine ⟨zMo (vM 139) d m a, ?_, ?_⟩
  · unfold fX11_moment
    rw [c_ru h, c_momentAt hk hR]
    rfl
  · unfold fX12_moment
    rw [zb_e, m_momentOf (by rw [e]; exact hR), e]
    rfl
/-- clock, both sides -/
theorem c_clock {ru : Nat} {vC vM : zHp} (h : zRV ru vC) (hk : zCK (ru + 1) vC (vM 139)) (hR : zWk (vM 139)) (m x : Int) : ∃ r, fX11_clock vC m x = some (vC, r) ∧ fX12_clock vM m x = some (zst vM 137 0 0, r) := by
  have e : (zst vM 137 0 0) 139 = vM 139 := by funext j; exact zst_na (by decide)
  have hR' : zWk ((zst vM 137 0 0) 139) := by rw [e]; exact hR
  have hq := @zQA_b (vM 139) 28
  have hb := zTurn_b hR
  unfold fX11_clock fX12_clock fX12_clock_J15 fX12_clock_J24 fX12_clock_J87 fX12_clock_J88
  rw [zb_e (zst vM 137 0 0)]
  by_cases c1 : m < 0
  · rw [if_pos c1, if_pos c1]
    exact ⟨_, rfl, rfl⟩
  rw [if_neg c1, if_neg c1, c_ru h, c_momentsAhead hk hR (by decide), zcl_e]
  by_cases c2 : m < 15 * zQA (vM 139) 28
  · have hT := (zTo_in hR (by omega)).mpr c2
    rw [if_pos c2, c_ru h, c_toldAt hk hR (by omega), zcl_e, if_pos (by omega : m ≤ 50000), m_toldAt hR' (by omega), e, zcl_e, if_pos (by omega : 0 ≤ m ∧ 0 ≤ zTo (vM 139) m ∧ zTo (vM 139) m ≤ 40319), if_neg (by omega : ¬ zTo (vM 139) m = -1), m_within, zcl_e, e]
    simp only [m_turned hR', e, zcl_e, zck_pos (show 0 ≤ (5 : Int) ∧ (5 : Int) < 51 by decide), zck_pos (show 0 ≤ (7 : Int) ∧ (7 : Int) < 51 by decide)]
    rw [zn_pos (by omega : -2147483648 ≤ zTurn (vM 139) + 60 ∧ zTurn (vM 139) + 60 ≤ 2147483647), zn_pos (by omega : -2147483648 ≤ zTurn (vM 139) + 120 ∧ zTurn (vM 139) + 120 ≤ 2147483647), c_ru h, c_isAgain hk hR, zcl_e]
    by_cases d0 : x = 0
    · subst d0
      refine ⟨_, rfl, ?_⟩
      simp only [ne_eq, not_true, if_false, if_true]
      rw [if_pos (by decide : (0 : Int) ≤ 0 ∧ (0 : Int) ≤ 2)]
      repeat' split
      all_goals first | rfl | (exfalso; omega)
    rw [if_neg d0]
    by_cases d1 : x = 1
    · subst d1
      refine ⟨_, rfl, ?_⟩
      simp only [ne_eq, not_true, if_false, if_true, z10, not_false_iff]
      rw [if_pos (by decide : (0 : Int) ≤ 1 ∧ (1 : Int) ≤ 2)]
      repeat' split
      all_goals first | rfl | (exfalso; omega)
    rw [if_neg d1]
    by_cases d2 : x = 2
    · subst d2
      rw [if_pos rfl, if_pos (by decide : (0 : Int) ≤ 2 ∧ (2 : Int) ≤ 2), if_pos (by decide : (1 : Int) ≠ 0)]
      simp only [ne_eq, d0, d1, not_false_iff, if_true, z10, if_false]
      unfold zWk at hR
      by_cases f : (vM 139) 7 = 0 ∧ zTurn (vM 139) + 60 ≤ m ∧ m < zTurn (vM 139) + 120
      · rw [if_pos f]
        refine ⟨1, by rw [if_neg (by decide)], ?_⟩
        rw [if_neg (by omega), if_neg (by omega), if_neg (by omega), if_neg (by omega)]
      · rw [if_neg f]
        refine ⟨0, by rw [if_pos rfl], ?_⟩
        repeat' split
        all_goals first | rfl | (exfalso; omega)
    rw [if_neg d2]
    refine ⟨_, rfl, ?_⟩
    rw [if_neg (by omega : ¬ (0 ≤ x ∧ x ≤ 2)), if_neg (by decide)]
  · have hT := (not_congr (zTo_in hR (by omega))).mpr c2
    rw [if_neg c2]
    refine ⟨_, rfl, ?_⟩
    by_cases c3 : m ≤ 50000
    · rw [if_pos c3, m_toldAt hR' (by omega), e, zcl_e, if_neg (by omega : ¬ (0 ≤ m ∧ 0 ≤ zTo (vM 139) m ∧ zTo (vM 139) m ≤ 40319)), if_pos rfl]
    · rw [if_neg c3, if_pos rfl]
