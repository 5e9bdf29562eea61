/-! PURE: day, week, counted, pay, dayPay, total: both sides. My own text. -/
abbrev yHc (R : Int → Int) (bs : List Nat) (pr : Int) : Nat → Int := fun i => if pr = -2 then 1 else if (yB R 255 bs 0).getD i 0 = pr then 1 else 0
theorem c_cdJ {R : Int → Int} {ru : Nat} {cs : Nat → List zP2} {hs : List zP4} {v : zHp} (hR : zWR R) (hI : zIC R ru cs hs v) {w : Nat} (hw : w < 4) (hok : zCdOk R (cs w)) {wk : Nat} (hwk : wk < 4) {fd td pr : Int} (hf : 7 * (wk : Int) ≤ fd ∧ fd ≤ td ∧ td ≤ 7 * (wk : Int) + 7) (hpr : -2 ≤ pr) : ∃ v', fX11_countDays_J31 v (w : Int) fd td pr = some (v', yS (yHc R (yBl R (zD R (zPcs R (cs w)) (wk : Int)) 255 (wk : Int)) pr) (zN (zD R (zPcs R (cs w)) (wk : Int)) (zQA R td)) - yS (yHc R (yBl R (zD R (zPcs R (cs w)) (wk : Int)) 255 (wk : Int)) pr) (zN (zD R (zPcs R (cs w)) (wk : Int)) (zQA R fd))) ∧ zIC R ru cs hs v' ∧ v' 1 = v 1 ∧ v' 2 = v 2 := by
  obtain ⟨v', g1, g2, g3, g4, g5⟩ := c_sheetOf hR hI hw hok
  obtain ⟨a1, a2, a3, a4, a5, a6⟩ := id g2
  have z0 := zQA_mono (R := R) (show 0 ≤ 7 * (wk : Int) by omega)
  rw [zQA_0 hR.1] at z0
  have z1 := zQA_mono (R := R) hf.1
  have z2 := zQA_mono (R := R) hf.2.1
  have z3 := zQA_mono (R := R) hf.2.2
  have z4 := zQA_mono (R := R) (show 7 * (wk : Int) + 7 ≤ 28 by omega)
  have z5 := @zQA_b R 28
  obtain ⟨r1, r2, r3⟩ := sh_rows hR hok g3 hwk (a := zQA R fd) (b := zQA R td) z1 z3
  refine ⟨v', ?_, g2, g4, g5⟩
  unfold fX11_countDays_J31
  rw [g1, zcl_e, zb_e, Int.toNat_natCast, c_ru a1, c_quartersAhead a3.2.1 hR.1 (by omega), zcl_e, c_ru a1, c_quartersAhead a3.2.1 hR.1 (by omega), zcl_e, cnt_L r1 (by omega) (by omega) hpr (fun q q1 q2 q3 => by
    have := yB_in hR (al := 255) (yBl R (zD R (zPcs R (cs w)) (wk : Int)) 255 (wk : Int)) 0 _ (r3 q q1 q2 q3)
    show -1 ≤ (yB R 255 (yBl R (zD R (zPcs R (cs w)) (wk : Int)) 255 (wk : Int)) 0).getD (zN (zD R (zPcs R (cs w)) (wk : Int)) q) 0
    omega) (zQA R td - zQA R fd).toNat zFU (zQA R fd) 0 (by omega) (Int.le_refl _) (zFU_lt (by omega)) (Int.le_refl _) (by omega), zl_e, Int.zero_add, show zQA R fd + ((zQA R td - zQA R fd).toNat : Int) = zQA R td by omega]
theorem c_cd {R : Int → Int} {ru : Nat} {cs : Nat → List zP2} {hs : List zP4} {v : zHp} (hR : zWR R) (hI : zIC R ru cs hs v) (x fd td pr : Int) : fX11_countDays v x fd td pr = if (0 ≤ x ∧ x ≤ 3) ∧ -2 ≤ pr ∧ pr < R 10 then fX11_countDays_J31 v x fd td pr else some (v, -1) := by
  have h8 := hR.2.2.1
  unfold fX11_countDays
  rw [c_isWorker, zcl_e, c_isPremium hI.1 hI.2.2.1, zcl_e]
  by_cases c : 0 ≤ x ∧ x ≤ 3
  · rw [if_pos c, if_neg (by decide)]
    by_cases d : pr = -2
    · rw [if_pos d, if_pos ⟨c, by omega, by omega⟩]
    rw [if_neg d]
    by_cases e : pr = -1
    · rw [if_pos e, if_pos ⟨c, by omega, by omega⟩]
    rw [if_neg e]
    by_cases f : 0 ≤ pr ∧ pr < R 10
    · rw [if_pos f, if_pos (by decide), if_pos ⟨c, by omega, by omega⟩]
    · rw [if_neg f, if_neg (by decide), if_neg (by omega)]
  · rw [if_neg c, if_pos rfl, if_neg (fun h => c h.1)]
theorem m_isOf {v : zHp} {i pr : Int} (hi : 0 ≤ i ∧ i < 680) : fX12_isOf v i pr = some (v, if pr = -2 then 1 else if v 151 i = pr then 1 else 0) := by
  unfold fX12_isOf
  rw [zck_pos hi]
  repeat' split
  all_goals first | rfl | (exfalso; omega)
theorem mweek_L {bs : List Nat} {R : Int → Int} {v : zHp} (hn : bs.length ≤ 676) (h1 : v 137 23 = (bs.length : Int)) {pr : Int} (h2 : ∀ i : Nat, i < bs.length → v 151 (i : Int) = (yB R 255 bs 0).getD i 0) : ∀ (d fu i : Nat) (x : Int), i + d = bs.length → d < fu → 0 ≤ x → x ≤ (i : Int) → fX12_week_L43 fu v pr x (i : Int) = some (v, x + (yS (yHc R bs pr) bs.length - yS (yHc R bs pr) i))
  | 0, fu, i, x, e1, e2, e3, e4 => by
    obtain ⟨k, rfl⟩ : ∃ k, fu = k + 1 := ⟨fu - 1, by omega⟩
    rw [fX12_week_L43.eq_2, if_pos (by omega), show i = bs.length by omega, Int.sub_self, Int.add_zero]
  | d + 1, fu, i, x, e1, e2, e3, e4 => by
    obtain ⟨k, rfl⟩ : ∃ k, fu = k + 1 := ⟨fu - 1, by omega⟩
    have eS : yS (yHc R bs pr) (i + 1) = yS (yHc R bs pr) i + (if pr = -2 then 1 else if (yB R 255 bs 0).getD i 0 = pr then 1 else 0) := rfl
    rw [fX12_week_L43.eq_2, if_neg (by omega), m_isOf (by omega), zcl_e, h2 i (by omega), zn_pos (by omega), zn_pos (by omega), zn_pos (by omega), zn_pos (by omega), show (i : Int) + 1 = ((i + 1 : Nat) : Int) by omega, Int.add_zero]
    have hh : (if pr = -2 then (1 : Int) else if (yB R 255 bs 0).getD i 0 = pr then 1 else 0) = 0 ∨ (if pr = -2 then (1 : Int) else if (yB R 255 bs 0).getD i 0 = pr then 1 else 0) = 1 := by
      repeat' split
      all_goals omega
    rcases hh with hh | hh
    · have ih := mweek_L (pr := pr) hn h1 h2 d k (i + 1) x (by omega) (by omega) e3 (by omega)
      rw [hh, if_pos rfl, ih, eS, hh]
      exact zpe (by omega)
    · have ih := mweek_L (pr := pr) hn h1 h2 d k (i + 1) (x + 1) (by omega) (by omega) (by omega) (by omega)
      rw [hh, if_neg (by decide), ih, eS, hh]
      exact zpe (by omega)
theorem zN_F {R : Int → Int} (hR : zWk R) {ps : List zP2} {wk : Int} (hwk : 0 ≤ wk ∧ wk ≤ 3) : zN (zD R ps wk) (zQA R (7 * wk)) = 0 := by
  have := (zN_676 (ps := ps) hR hwk (Int.le_refl (zQA R (7 * wk)))).1
  omega
theorem n10 : ¬ (1 : Int) = 0 := by decide
theorem p10 : (1 : Int) ≠ 0 := by decide
theorem n00 : ¬ (0 : Int) ≠ 0 := fun h => h rfl
theorem z00 : (0 : Int) = 0 := rfl
/-- week, both sides -/
theorem a_week {vC vM : zHp} (hI : zInv vC vM) (x1 x2 x3 : Int) : ∃ vC' vM' r, fX11_week vC x1 x2 x3 = some (vC', r) ∧ fX12_week vM x1 x2 x3 = some (vM', r) ∧ zInv vC' vM' := by
  obtain ⟨ru, cs, hs, R, hR, hC, hM, hT, hok, hV⟩ := hI
  have hM1 := hM.mv (zMP.thr (v := vM) 0)
  unfold fX11_week fX12_week
  rw [zb_e, c_isWeek, zcl_e, m_isWorker, zcl_e, m_isWeek, zcl_e, m_isAsked hM1.1 hR, zcl_e]
  have no : ∃ vC' vM' r, some (vC, (-1 : Int)) = some (vC', r) ∧ some (zst vM 137 0 0, (-1 : Int)) = some (vM', r) ∧ zInv vC' vM' := ⟨vC, _, -1, rfl, rfl, zInv_rd hR hM hT hok hV hC rfl rfl (zMP.thr 0)⟩
  by_cases c2 : 0 ≤ x2 ∧ x2 ≤ 3
  · rw [if_pos c2, if_neg n10, if_neg n10, zn_pos (by omega), zn_pos (by omega), c_cd hR hC]
    by_cases c1 : 0 ≤ x1 ∧ x1 ≤ 3
    · by_cases c3 : -2 ≤ x3 ∧ x3 < R 10
      · have c13 : (0 ≤ x1 ∧ x1 ≤ 3) ∧ -2 ≤ x3 ∧ x3 < R 10 := ⟨c1, c3⟩
        rw [if_pos c13, if_pos c1, if_pos c3, if_neg n10, if_pos p10]
        obtain ⟨w, rfl⟩ : ∃ w : Nat, x1 = (w : Int) := ⟨x1.toNat, by omega⟩
        obtain ⟨wk, rfl⟩ : ∃ k : Nat, x2 = (k : Int) := ⟨x2.toNat, by omega⟩
        obtain ⟨vC', g1, g2, g3, g4⟩ := c_cdJ hR hC (w := w) (by omega) (hok w (by omega)) (wk := wk) (by omega) (fd := (wk : Int) * 7) (td := (wk : Int) * 7 + 7) (pr := x3) (by omega) c3.1
        obtain ⟨vM', q1, q2, ⟨q3, q4, q5⟩, q6, q7, q8, q9⟩ := m_laysWeek (w := w) (wk := (wk : Int)) (by omega) hM1.1 hR (hok w (by omega)) (hM1.2.2 w (by omega)) c2
        have hl := mweek_L (pr := x3) (R := R) q6 q3 (fun i hi => (q7 i hi).1) _ zFU 0 0 (Nat.zero_add _) (zFU_lt (by omega)) (Int.le_refl _) (Int.le_refl _)
        rw [show ((0 : Nat) : Int) = 0 from rfl] at hl
        rw [g1, zcl_e, q1, zcl_e, hl, zl_e]
        refine ⟨_, _, _, rfl, ?_, zInv_rd hR hM hT hok hV g2 g3 g4 ((zMP.thr 0).tr q2)⟩
        refine zpe ?_
        rw [show (wk : Int) * 7 = 7 * (wk : Int) by omega, zN_F hR.1 c2, yBl_len]
        show 0 + (_ - 0) = _ - 0
        omega
      · have c13 : ¬ ((0 ≤ x1 ∧ x1 ≤ 3) ∧ -2 ≤ x3 ∧ x3 < R 10) := fun h => c3 h.2
        rw [if_neg c13, if_pos c1, if_neg c3, if_neg n10, if_neg n00, zcl_e]
        exact no
    · have c13 : ¬ ((0 ≤ x1 ∧ x1 ≤ 3) ∧ -2 ≤ x3 ∧ x3 < R 10) := fun h => c1 h.1
      rw [if_neg c13, if_neg c1, if_pos z00, zcl_e]
      exact no
  · rw [if_neg c2, if_pos z00, if_pos z00]
    by_cases c1 : 0 ≤ x1 ∧ x1 ≤ 3
    · rw [if_pos c1, if_neg n10]
      exact no
    · rw [if_neg c1, if_pos z00]
      exact no
