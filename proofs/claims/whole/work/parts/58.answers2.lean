/-! PURE: day, counted, pay, dayPay, total: both sides. My own text. -/
theorem q_of {R : Int → Int} {ps : List zP2} (hps : zPok R ps) {wk : Int} {i : Nat} (hi : i < (yBl R (zD R ps wk) 255 wk).length) : ∃ q : Int, (yLq R (zD R ps wk) wk).getD i 0 = q ∧ 0 ≤ q ∧ q < zQA R 28 ∧ zD R ps wk q = true ∧ i = zN (zD R ps wk) q ∧ q < zQA R (7 * wk + 7) := by
  rw [yBl_len] at hi
  obtain ⟨q, h1, h2, h3, h4⟩ := yQL_ex (D := zD R ps wk) (zQA R (7 * wk + 7)).toNat i hi
  have hb := zWd_b hps (zD_iff.mp h2).1
  exact ⟨(q : Int), h4, hb.1, hb.2, h2, h3, by omega⟩
theorem day_part {R : Int → Int} (hR : zWR R) {ps : List zP2} (hps : zPok R ps) {wk d : Int} (hwk : 0 ≤ wk ∧ wk ≤ 3) (hd : 7 * wk ≤ d ∧ d < 7 * wk + 7) {h : Nat → Int} : yS (fun i => if zDy R ((yLq R (zD R ps wk) wk).getD i 0) = d then h i else 0) (yBl R (zD R ps wk) 255 wk).length = yS h (zN (zD R ps wk) (zQA R (d + 1))) - yS h (zN (zD R ps wk) (zQA R d)) := by
  have z1 := zQA_up (R := R) d
  have z2 := zQA_mono (R := R) (show d + 1 ≤ 7 * wk + 7 by omega)
  have e1 := zN_mono (D := zD R ps wk) (show zQA R d ≤ zQA R (d + 1) by omega)
  have e2 := zN_mono (D := zD R ps wk) z2
  refine yS_part _ (by rw [yBl_len]; exact e2) e1 fun i hi => ?_
  obtain ⟨q, q1, q2, q3, q4, q5, q6⟩ := q_of hps hi
  have hy := zDy_iff hR.1 ⟨q2, q3⟩ (d := d)
  rw [q1]
  by_cases c : zQA R d ≤ q ∧ q < zQA R (d + 1)
  · have a1 := zN_mono (D := zD R ps wk) c.1
    have a2 := (yQL_at q2 q4 c.2).1
    rw [if_pos (hy.mpr c), if_pos ⟨by omega, by omega⟩]
  · rw [if_neg (fun h => c (hy.mp h)), if_neg]
    rintro ⟨a1, a2⟩
    by_cases c1 : q < zQA R d
    · have := (yQL_at q2 q4 c1).1
      omega
    · have := zN_mono (D := zD R ps wk) (show zQA R (d + 1) ≤ q by omega)
      omega
theorem mday_L {R : Int → Int} (hR : zWR R) {ps : List zP2} (hps : zPok R ps) {wk d : Int} {v : zHp} (h3 : v 139 = R) (hn : (yBl R (zD R ps wk) 255 wk).length ≤ 676) (h1 : v 137 23 = ((yBl R (zD R ps wk) 255 wk).length : Int)) {pr : Int} (h4 : ∀ i : Nat, i < (yBl R (zD R ps wk) 255 wk).length → v 149 (i : Int) = (yLq R (zD R ps wk) wk).getD i 0) (h2 : ∀ i : Nat, i < (yBl R (zD R ps wk) 255 wk).length → v 151 (i : Int) = (yB R 255 (yBl R (zD R ps wk) 255 wk) 0).getD i 0) : ∀ (m fu i : Nat) (x : Int), i + m = (yBl R (zD R ps wk) 255 wk).length → m < fu → 0 ≤ x → x ≤ (i : Int) → fX12_day_L48 fu v d pr x (i : Int) = some (v, x + (yS (fun i => if zDy R ((yLq R (zD R ps wk) wk).getD i 0) = d then yHc R (yBl R (zD R ps wk) 255 wk) pr i else 0) (yBl R (zD R ps wk) 255 wk).length - yS (fun i => if zDy R ((yLq R (zD R ps wk) wk).getD i 0) = d then yHc R (yBl R (zD R ps wk) 255 wk) pr i else 0) i))
  | 0, fu, i, x, e1, e2, e3, e4 => by
    obtain ⟨k, rfl⟩ : ∃ k, fu = k + 1 := ⟨fu - 1, by omega⟩
    rw [fX12_day_L48.eq_2, if_pos (by omega), show i = (yBl R (zD R ps wk) 255 wk).length by omega, Int.sub_self, Int.add_zero]
  | m + 1, fu, i, x, e1, e2, e3, e4 => by
    obtain ⟨k, rfl⟩ : ∃ k, fu = k + 1 := ⟨fu - 1, by omega⟩
    have hi : i < (yBl R (zD R ps wk) 255 wk).length := by omega
    obtain ⟨q, q1, q2, q3, q4, q5, q6⟩ := q_of hps hi
    have eS : yS (fun i => if zDy R ((yLq R (zD R ps wk) wk).getD i 0) = d then yHc R (yBl R (zD R ps wk) 255 wk) pr i else 0) (i + 1) = yS (fun i => if zDy R ((yLq R (zD R ps wk) wk).getD i 0) = d then yHc R (yBl R (zD R ps wk) 255 wk) pr i else 0) i + (if zDy R ((yLq R (zD R ps wk) wk).getD i 0) = d then (if pr = -2 then 1 else if (yB R 255 (yBl R (zD R ps wk) 255 wk) 0).getD i 0 = pr then 1 else 0) else 0) := rfl
    rw [q1] at eS
    rw [fX12_day_L48.eq_2, if_neg (by omega), zck_pos (by omega), h4 i hi, q1, m_dayOf (by rw [h3]; exact hR.1) (by rw [h3]; exact ⟨q2, q3⟩), zcl_e, h3, m_isOf (by omega), zcl_e, h2 i hi, Int.add_zero]
    simp only [zn_pos (show -2147483648 ≤ x ∧ x ≤ 2147483647 by omega), zn_pos (show -2147483648 ≤ x + 1 ∧ x + 1 ≤ 2147483647 by omega), zn_pos (show -2147483648 ≤ (i : Int) + 1 ∧ (i : Int) + 1 ≤ 2147483647 by omega)]
    rw [show (i : Int) + 1 = ((i + 1 : Nat) : Int) by omega]
    by_cases c : zDy R q = d
    · rw [if_neg (fun h => h c)]
      rw [if_pos c] at eS
      have hh : (if pr = -2 then (1 : Int) else if (yB R 255 (yBl R (zD R ps wk) 255 wk) 0).getD i 0 = pr then 1 else 0) = 0 ∨ (if pr = -2 then (1 : Int) else if (yB R 255 (yBl R (zD R ps wk) 255 wk) 0).getD i 0 = pr then 1 else 0) = 1 := by
        repeat' split
        all_goals omega
      rcases hh with hh | hh
      · have ih := mday_L (d := d) (pr := pr) hR hps h3 hn h1 h4 h2 m k (i + 1) x (by omega) (by omega) e3 (by omega)
        rw [hh, if_pos rfl, ih, eS, hh]
        exact zpe (by omega)
      · have ih := mday_L (d := d) (pr := pr) hR hps h3 hn h1 h4 h2 m k (i + 1) (x + 1) (by omega) (by omega) (by omega) (by omega)
        rw [hh, if_neg (by decide), ih, eS, hh]
        exact zpe (by omega)
    · rw [if_pos c]
      rw [if_neg c] at eS
      have ih := mday_L (d := d) (pr := pr) hR hps h3 hn h1 h4 h2 m k (i + 1) x (by omega) (by omega) e3 (by omega)
      rw [ih, eS]
      exact zpe (by omega)
/-- day, both sides -/
theorem a_day {vC vM : zHp} (hI : zInv vC vM) (x1 x2 x3 : Int) : ∃ vC' vM' r, fX11_day vC x1 x2 x3 = some (vC', r) ∧ fX12_day vM x1 x2 x3 = some (vM', r) ∧ zInv vC' vM' := by
  obtain ⟨ru, cs, hs, R, hR, hC, hM, hT, hok, hV⟩ := hI
  have hM1 := hM.mv (zMP.thr (v := vM) 0)
  unfold fX11_day fX12_day
  rw [zb_e, m_isWorker, zcl_e, m_within, zcl_e, m_isAsked hM1.1 hR, zcl_e]
  have no : ∃ vC' vM' r, some (vC, (-1 : Int)) = some (vC', r) ∧ some (zst vM 137 0 0, (-1 : Int)) = some (vM', r) ∧ zInv vC' vM' := ⟨vC, _, -1, rfl, rfl, zInv_rd hR hM hT hok hV hC rfl rfl (zMP.thr 0)⟩
  by_cases c2 : 0 ≤ x2 ∧ x2 ≤ 27
  · rw [if_neg (by omega : ¬ x2 < 0), if_pos (by omega : x2 < 28), if_pos c2, if_neg n10, zn_pos (by omega), c_cd hR hC]
    by_cases c1 : 0 ≤ x1 ∧ x1 ≤ 3
    · by_cases c3 : -2 ≤ x3 ∧ x3 < R 10
      · have c13 : (0 ≤ x1 ∧ x1 ≤ 3) ∧ -2 ≤ x3 ∧ x3 < R 10 := ⟨c1, c3⟩
        rw [if_pos c13, if_pos c1, if_pos c3, if_neg n10, if_pos p10]
        obtain ⟨w, rfl⟩ : ∃ w : Nat, x1 = (w : Int) := ⟨x1.toNat, by omega⟩
        obtain ⟨wk, hwk⟩ : ∃ k : Nat, x2 / 7 = (k : Int) := ⟨(x2 / 7).toNat, by omega⟩
        have hps := (zPcs_ok hR (hok w (by omega))).1
        obtain ⟨vC', g1, g2, g3, g4⟩ := c_cdJ hR hC (w := w) (by omega) (hok w (by omega)) (wk := wk) (by omega) (fd := x2) (td := x2 + 1) (pr := x3) (by omega) c3.1
        obtain ⟨vM', q1, q2, ⟨q3, q4, q5⟩, q6, q7, q8, q9⟩ := m_laysWeek (w := w) (wk := (wk : Int)) (by omega) hM1.1 hR (hok w (by omega)) (hM1.2.2 w (by omega)) (by omega)
        have hl := mday_L (d := x2) (pr := x3) hR hps (by rw [q2.1.2.1]; exact hM1.1) q6 q3 (fun i hi => (q5 i hi).1) (fun i hi => (q7 i hi).1) _ zFU 0 0 (Nat.zero_add _) (zFU_lt (by omega)) (Int.le_refl _) (Int.le_refl _)
        rw [show ((0 : Nat) : Int) = 0 from rfl, day_part hR hps (by omega) (by omega)] at hl
        rw [Int.tdiv_eq_ediv_of_nonneg c2.1, hwk, g1, zcl_e, q1, zcl_e, hl, zl_e]
        refine ⟨_, _, _, rfl, ?_, zInv_rd hR hM hT hok hV g2 g3 g4 ((zMP.thr 0).tr q2)⟩
        refine zpe ?_
        show 0 + (_ - 0) = _
        omega
      · have c13 : ¬ ((0 ≤ x1 ∧ x1 ≤ 3) ∧ -2 ≤ x3 ∧ x3 < R 10) := fun h => c3 h.2
        rw [if_neg c13, if_pos c1, if_neg c3, if_neg n10, if_neg n00, zcl_e]
        exact no
    · have c13 : ¬ ((0 ≤ x1 ∧ x1 ≤ 3) ∧ -2 ≤ x3 ∧ x3 < R 10) := fun h => c1 h.1
      rw [if_neg c13, if_neg c1, if_pos z00, zcl_e]
      exact no
  · have e : (if x2 < 0 then (some (vC, (-1 : Int)) : Option (zHp × Int)) else if x2 < 28 then zn (x2 + 1) fun t1 => zcl (fX11_countDays vC x1 x2 t1 x3) fun v2 r3 => some (v2, r3) else some (vC, -1)) = some (vC, -1) := by
      by_cases d : x2 < 0
      · rw [if_pos d]
      · rw [if_neg d, if_neg (by omega)]
    rw [e, if_neg c2, if_pos z00]
    by_cases c1 : 0 ≤ x1 ∧ x1 ≤ 3
    · rw [if_pos c1, if_neg n10]
      exact no
    · rw [if_neg c1, if_pos z00]
      exact no
/-- counted, both sides -/
theorem a_counted {vC vM : zHp} (hI : zInv vC vM) (x1 x2 x3 : Int) : ∃ vC' vM' r, fX11_counted vC x1 x2 x3 = some (vC', r) ∧ fX12_counted vM x1 x2 x3 = some (vM', r) ∧ zInv vC' vM' := by
  obtain ⟨ru, cs, hs, R, hR, hC, hM, hT, hok, hV⟩ := hI
  have hM1 := hM.mv (zMP.thr (v := vM) 0)
  unfold fX11_counted fX12_counted
  rw [zb_e, c_isWorker, zcl_e, c_isWeek, zcl_e, m_isWorker, zcl_e, m_isWeek, zcl_e]
  have no : ∃ vC' vM' r, some (vC, (-1 : Int)) = some (vC', r) ∧ some (zst vM 137 0 0, (-1 : Int)) = some (vM', r) ∧ zInv vC' vM' := ⟨vC, _, -1, rfl, rfl, zInv_rd hR hM hT hok hV hC rfl rfl (zMP.thr 0)⟩
  by_cases c1 : 0 ≤ x1 ∧ x1 ≤ 3
  · by_cases c2 : 0 ≤ x2 ∧ x2 ≤ 3
    · rw [if_pos c1, if_pos c2, if_neg n10, if_neg n10, if_pos p10, if_pos p10]
      obtain ⟨w, rfl⟩ : ∃ w : Nat, x1 = (w : Int) := ⟨x1.toNat, by omega⟩
      obtain ⟨wk, rfl⟩ : ∃ k : Nat, x2 = (k : Int) := ⟨x2.toNat, by omega⟩
      obtain ⟨vC', g1, g2, g3, g4, g5⟩ := c_sheetOf hR hC (w := w) (by omega) (hok w (by omega))
      obtain ⟨a1, a2, a3, a4, a5, a6⟩ := id g2
      obtain ⟨vM', q1, q2, ⟨q3, q4, q5⟩, q6, q7, q8, q9⟩ := m_laysWeek (w := w) (wk := (wk : Int)) (by omega) hM1.1 hR (hok w (by omega)) (hM1.2.2 w (by omega)) c2
      have z0 := zQA_mono (R := R) (show 0 ≤ 7 * (wk : Int) by omega)
      rw [zQA_0 hR.1] at z0
      have z1 := zQA_mono (R := R) (show 7 * (wk : Int) ≤ 7 * (wk : Int) + 7 by omega)
      have z4 := zQA_mono (R := R) (show 7 * (wk : Int) + 7 ≤ 28 by omega)
      have z5 := @zQA_b R 28
      obtain ⟨r1, r2, r3⟩ := sh_rows hR (hok w (by omega)) g3 (wk := wk) (by omega) (a := zQA R (7 * (wk : Int))) (b := zQA R (7 * (wk : Int) + 7)) (Int.le_refl _) (Int.le_refl _)
      have J : ∀ (row : Nat) (l : List Int), zRo2 (vC' row) (zD R (zPcs R (cs w)) (wk : Int)) (fun i => l.getD i 0) (zQA R (7 * (wk : Int))) (zQA R (7 * (wk : Int) + 7)) → l.length = (yBl R (zD R (zPcs R (cs w)) (wk : Int)) 255 (wk : Int)).length → (∀ i : Nat, i < l.length → l.getD i 0 = -1 ∨ (0 ≤ l.getD i 0 ∧ l.getD i 0 < R 10)) → fX11_counted_J40 vC' (wk : Int) row = some (vC', ySum (yCn R) l) := fun row l hrow hlen hin => by
        unfold fX11_counted_J40
        have e := ctd_L hR a1 a3 hrow (by omega) (by omega) (fun q b1 b2 b3 => hin _ (by rw [hlen]; exact r3 q b1 b2 b3)) (zQA R (7 * (wk : Int) + 7) - zQA R (7 * (wk : Int))).toNat zFU (zQA R (7 * (wk : Int))) 0 (by omega) (Int.le_refl _) (zFU_lt (by omega)) (Int.le_refl _) (by omega)
        rw [show zQA R (7 * (wk : Int)) + ((zQA R (7 * (wk : Int) + 7) - zQA R (7 * (wk : Int))).toNat : Int) = zQA R (7 * (wk : Int) + 7) by omega, zN_F hR.1 c2] at e
        rw [c_ru a1, zn_pos (by omega), show (wk : Int) * 7 = 7 * (wk : Int) by omega, c_quartersAhead a3.2.1 hR.1 (by omega), zcl_e, c_ru a1, zn_pos (by omega), c_quartersAhead a3.2.1 hR.1 (by omega), zcl_e, e, zl_e]
        refine zpe ?_
        rw [← yS_list l, hlen, yBl_len]
        show 0 + (_ - 0) = _
        omega
      rw [g1, zcl_e, zb_e, Int.toNat_natCast, q1, zcl_e, q8, q9, yB_end, yCm_end, Int.zero_add, Int.zero_add]
      by_cases c3 : x3 = 0
      · rw [if_pos c3, if_pos c3, J _ _ r1 (yB_len _ _) (fun i hi => yB_in hR _ _ i (by rw [yB_len] at hi; exact hi))]
        exact ⟨_, _, _, rfl, rfl, zInv_rd hR hM hT hok hV g2 g4 g5 ((zMP.thr 0).tr q2)⟩
      · rw [if_neg c3, if_neg c3, J _ _ r2 (yCm_len _ _) (fun i hi => yCm_in hR _ _ i (by rw [yCm_len] at hi; exact hi))]
        exact ⟨_, _, _, rfl, rfl, zInv_rd hR hM hT hok hV g2 g4 g5 ((zMP.thr 0).tr q2)⟩
    · rw [if_pos c1, if_neg c2, if_neg n10, if_neg n10, if_neg n00, if_neg n00]
      exact no
  · rw [if_neg c1, if_pos z00, if_pos z00]
    exact no
