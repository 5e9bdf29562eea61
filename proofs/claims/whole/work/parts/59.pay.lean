/-! PURE: pay, dayPay, total: both sides. My own text. -/
abbrev yHp (R : Int → Int) (l : List Int) : Nat → Int := fun i => 100 + yHn R (l.getD i 0)
theorem m_hund {R : Int → Int} (hR : zWR R) {v : zHp} (h3 : v 139 = R) {a1 : Nat} {i : Int} (hi : 0 ≤ i ∧ i < 680) (hx : v a1 i = -1 ∨ (0 ≤ v a1 i ∧ v a1 i < R 10)) : fX12_hundredths v a1 i = some (v, 100 + yHn R (v a1 i)) := by
  have h8 := hR.2.2.1
  have hb := yHn_b hR hx
  unfold fX12_hundredths
  rw [zck_pos hi]
  by_cases c : v a1 i = -1
  · rw [if_neg (by omega), zn_pos (by omega), c]
    rfl
  · have e : yHn R (v a1 i) = R (11 + 5 * (v a1 i) + 1) := if_neg c
    rw [if_pos c, zck_pos hi, m_prem (by omega) (by decide), zcl_e, h3, ← e, zn_pos (by omega)]
theorem mpay_L {R : Int → Int} (hR : zWR R) {v : zHp} (h3 : v 139 = R) {n : Nat} {x3 : Int} {l : List Int} (hn : n ≤ 676) (h1 : v 137 23 = (n : Int)) (hl : l.length = n) (h2 : ∀ i : Nat, i < n → (if x3 = 0 then v 151 (i : Int) else v 152 (i : Int)) = l.getD i 0) (hin : ∀ i : Nat, i < n → l.getD i 0 = -1 ∨ (0 ≤ l.getD i 0 ∧ l.getD i 0 < R 10)) : ∀ (m fu i : Nat) (x : Int), i + m = n → m < fu → 0 ≤ x → x ≤ 400 * (i : Int) → fX12_pay_L35 fu v x3 x (i : Int) = some (v, x + (yS (yHp R l) n - yS (yHp R l) i))
  | 0, fu, i, x, e1, e2, e3, e4 => by
    obtain ⟨k, rfl⟩ : ∃ k, fu = k + 1 := ⟨fu - 1, by omega⟩
    rw [fX12_pay_L35.eq_2, if_pos (by omega), show i = n by omega, Int.sub_self, Int.add_zero]
  | m + 1, fu, i, x, e1, e2, e3, e4 => by
    obtain ⟨k, rfl⟩ : ∃ k, fu = k + 1 := ⟨fu - 1, by omega⟩
    have hi := h2 i (by omega)
    have hii := hin i (by omega)
    have hb := yHn_b hR hii
    have eS : yS (yHp R l) (i + 1) = yS (yHp R l) i + (100 + yHn R (l.getD i 0)) := rfl
    have ih := mpay_L hR h3 hn h1 hl h2 hin m k (i + 1) (x + (100 + yHn R (l.getD i 0))) (by omega) (by omega) (by omega) (by omega)
    rw [eS] at ih
    rw [fX12_pay_L35.eq_2, if_neg (by omega)]
    by_cases c : x3 = 0
    · rw [if_pos c] at hi
      rw [if_pos c, m_hund hR h3 (by omega) (by rw [hi]; exact hii), zcl_e, hi, zn_pos (by omega), zn_pos (by omega), show (i : Int) + 1 = ((i + 1 : Nat) : Int) by omega, ih]
      exact zpe (by omega)
    · rw [if_neg c] at hi
      rw [if_neg c, m_hund hR h3 (by omega) (by rw [hi]; exact hii), zcl_e, hi, zn_pos (by omega), zn_pos (by omega), show (i : Int) + 1 = ((i + 1 : Nat) : Int) by omega, ih]
      exact zpe (by omega)
theorem yHp_b {R : Int → Int} (hR : zWR R) {l : List Int} {n : Nat} (hn : n ≤ 676) (hin : ∀ i : Nat, i < n → l.getD i 0 = -1 ∨ (0 ≤ l.getD i 0 ∧ l.getD i 0 < R 10)) : 0 ≤ yS (yHp R l) n ∧ yS (yHp R l) n ≤ 270400 := by
  have := yS_b (h := yHp R l) (lo := 0) (hi := 400) (by decide) (by decide) n fun i hi => by
    have := yHn_b hR (hin i hi)
    show 0 ≤ 100 + yHn R (l.getD i 0) ∧ 100 + yHn R (l.getD i 0) ≤ 400
    omega
  omega
theorem rate_b {R : Int → Int} (hR : zWR R) {x : Int} (hx : 0 ≤ x ∧ x ≤ 270400) : -2147483648 ≤ R 4 * x ∧ R 4 * x ≤ 2147483647 := by
  have h4 := hR.2.1
  have h1 : 0 ≤ R 4 * x := Int.mul_nonneg (by omega) hx.1
  have h2 : R 4 * x ≤ 400 * 270400 := Int.mul_le_mul (by omega) hx.2 hx.1 (by omega)
  omega
/-- the class's pay of days within a week -/
theorem c_pod {R : Int → Int} {ru : Nat} {cs : Nat → List zP2} {hs : List zP4} {v : zHp} (hR : zWR R) (hI : zIC R ru cs hs v) {row : Nat} {l : List Int} {ps : List zP2} {wk : Nat} (hwk : wk < 4) {fd td : Int} (hf : 7 * (wk : Int) ≤ fd ∧ fd ≤ td ∧ td ≤ 7 * (wk : Int) + 7) (hrow : zRo2 (v row) (zD R ps (wk : Int)) (fun i => l.getD i 0) (zQA R fd) (zQA R td)) (hin : ∀ q : Int, zQA R fd ≤ q → q < zQA R td → zD R ps (wk : Int) q = true → l.getD (zN (zD R ps (wk : Int)) q) 0 = -1 ∨ (0 ≤ l.getD (zN (zD R ps (wk : Int)) q) 0 ∧ l.getD (zN (zD R ps (wk : Int)) q) 0 < R 10)) : fX11_payOfDays v row fd td = some (v, R 4 * (yS (yHp R l) (zN (zD R ps (wk : Int)) (zQA R td)) - yS (yHp R l) (zN (zD R ps (wk : Int)) (zQA R fd)))) := by
  obtain ⟨a1, a2, a3, a4, a5, a6⟩ := id hI
  have z0 := zQA_mono (R := R) (show 0 ≤ 7 * (wk : Int) by omega)
  rw [zQA_0 hR.1] at z0
  have z1 := zQA_mono (R := R) hf.1
  have z2 := zQA_mono (R := R) hf.2.1
  have z3 := zQA_mono (R := R) (show td ≤ 28 by omega)
  have z5 := @zQA_b R 28
  unfold fX11_payOfDays
  have e := pod_L hR a1 a3 hrow (by omega) (by omega) hin (zQA R td - zQA R fd).toNat zFU (zQA R fd) 0 (by omega) (Int.le_refl _) (zFU_lt (by omega)) (Int.le_refl _) (by omega)
  rw [show zQA R fd + ((zQA R td - zQA R fd).toNat : Int) = zQA R td by omega] at e
  rw [c_ru a1, c_quartersAhead a3.2.1 hR.1 (by omega), zcl_e, c_ru a1, c_quartersAhead a3.2.1 hR.1 (by omega), zcl_e, e, zl_e, Int.zero_add]
  refine zpe ?_
  rw [Int.mul_sub, ← yS_mul, ← yS_mul]
/-- pay, both sides -/
theorem a_pay {vC vM : zHp} (hI : zInv vC vM) (x1 x2 x3 : Int) : ∃ vC' vM' r, fX11_pay vC x1 x2 x3 = some (vC', r) ∧ fX12_pay vM x1 x2 x3 = some (vM', r) ∧ zInv vC' vM' := by
  obtain ⟨ru, cs, hs, R, hR, hC, hM, hT, hok, hV⟩ := hI
  have hM1 := hM.mv (zMP.thr (v := vM) 0)
  unfold fX11_pay fX12_pay
  rw [zb_e, c_isWorker, zcl_e, c_isWeek, zcl_e, m_isWorker, zcl_e, m_isWeek, zcl_e]
  have no : ∃ vC' vM' r, some (vC, (-1 : Int)) = some (vC', r) ∧ some (zst vM 137 0 0, (-1 : Int)) = some (vM', r) ∧ zInv vC' vM' := ⟨vC, _, -1, rfl, rfl, zInv_rd hR hM hT hok hV hC rfl rfl (zMP.thr 0)⟩
  by_cases c1 : 0 ≤ x1 ∧ x1 ≤ 3
  · by_cases c2 : 0 ≤ x2 ∧ x2 ≤ 3
    · rw [if_pos c1, if_pos c2, if_neg n10, if_neg n10, if_pos p10, if_pos p10]
      obtain ⟨w, rfl⟩ : ∃ w : Nat, x1 = (w : Int) := ⟨x1.toNat, by omega⟩
      obtain ⟨wk, rfl⟩ : ∃ k : Nat, x2 = (k : Int) := ⟨x2.toNat, by omega⟩
      obtain ⟨vC', g1, g2, g3, g4, g5⟩ := c_sheetOf hR hC (w := w) (by omega) (hok w (by omega))
      obtain ⟨vM', q1, q2, ⟨q3, q4, q5⟩, q6, q7, q8, q9⟩ := m_laysWeek (w := w) (wk := (wk : Int)) (by omega) hM1.1 hR (hok w (by omega)) (hM1.2.2 w (by omega)) c2
      obtain ⟨r1, r2, r3⟩ := sh_rows hR (hok w (by omega)) g3 (wk := wk) (by omega) (a := zQA R (7 * (wk : Int))) (b := zQA R (7 * (wk : Int) + 7)) (Int.le_refl _) (Int.le_refl _)
      have r139 : vM' 139 = R := by rw [q2.1.2.1]; exact hM1.1
      have J : ∀ (row : Nat) (l : List Int), zRo2 (vC' row) (zD R (zPcs R (cs w)) (wk : Int)) (fun i => l.getD i 0) (zQA R (7 * (wk : Int))) (zQA R (7 * (wk : Int) + 7)) → (∀ i : Nat, i < (yBl R (zD R (zPcs R (cs w)) (wk : Int)) 255 (wk : Int)).length → l.getD i 0 = -1 ∨ (0 ≤ l.getD i 0 ∧ l.getD i 0 < R 10)) → fX11_pay_J47 vC' (7 * (wk : Int)) row = some (vC', R 4 * yS (yHp R l) (yBl R (zD R (zPcs R (cs w)) (wk : Int)) 255 (wk : Int)).length) := fun row l hrow hin => by
        unfold fX11_pay_J47
        rw [zn_pos (by omega), c_pod hR g2 (wk := wk) (by omega) (by omega) hrow (fun q b1 b2 b3 => hin _ (r3 q b1 b2 b3)), zcl_e, zN_F hR.1 c2, yBl_len]
        refine zpe ?_
        show R 4 * (_ - 0) = _
        rw [Int.sub_zero]
      have L : ∀ l : List Int, l.length = (yBl R (zD R (zPcs R (cs w)) (wk : Int)) 255 (wk : Int)).length → (∀ i : Nat, i < (yBl R (zD R (zPcs R (cs w)) (wk : Int)) 255 (wk : Int)).length → (if x3 = 0 then vM' 151 (i : Int) else vM' 152 (i : Int)) = l.getD i 0) → (∀ i : Nat, i < (yBl R (zD R (zPcs R (cs w)) (wk : Int)) 255 (wk : Int)).length → l.getD i 0 = -1 ∨ (0 ≤ l.getD i 0 ∧ l.getD i 0 < R 10)) → (zl (fX12_pay_L35 zFU vM' x3 0 0) fun v21 w22 => zck (0 ≤ (4 : Int) ∧ (4 : Int) < 51) <| zn ((v21 139 4) * w22) fun t24 => some (v21, t24)) = some (vM', R 4 * yS (yHp R l) (yBl R (zD R (zPcs R (cs w)) (wk : Int)) 255 (wk : Int)).length) := fun l l1 l2 l3 => by
        have e := mpay_L hR r139 q6 q3 l1 l2 l3 _ zFU 0 0 (Nat.zero_add _) (zFU_lt (by omega)) (Int.le_refl _) (by decide)
        rw [show ((0 : Nat) : Int) = 0 from rfl, show yS (yHp R l) 0 = 0 from rfl, Int.sub_zero, Int.zero_add] at e
        rw [e, zl_e, zck_pos (by decide), r139, zn_pos (rate_b hR (yHp_b hR q6 l3))]
      rw [g1, zcl_e, zb_e, Int.toNat_natCast, zn_pos (by omega), show (wk : Int) * 7 = 7 * (wk : Int) by omega, q1, zcl_e]
      by_cases c3 : x3 = 0
      · rw [if_pos c3, J _ _ r1 (fun i hi => yB_in hR _ _ i hi), L (yB R 255 (yBl R (zD R (zPcs R (cs w)) (wk : Int)) 255 (wk : Int)) 0) (yB_len _ _) (fun i hi => by rw [if_pos c3]; exact (q7 i hi).1) (fun i hi => yB_in hR _ _ i hi)]
        exact ⟨_, _, _, rfl, rfl, zInv_rd hR hM hT hok hV g2 g4 g5 ((zMP.thr 0).tr q2)⟩
      · rw [if_neg c3, J _ _ r2 (fun i hi => yCm_in hR _ _ i hi), L (yCm R 255 (yBl R (zD R (zPcs R (cs w)) (wk : Int)) 255 (wk : Int)) 0) (yCm_len _ _) (fun i hi => by rw [if_neg c3]; exact (q7 i hi).2.1) (fun i hi => yCm_in hR _ _ i hi)]
        exact ⟨_, _, _, rfl, rfl, zInv_rd hR hM hT hok hV g2 g4 g5 ((zMP.thr 0).tr q2)⟩
    · rw [if_pos c1, if_neg c2, if_neg n10, if_neg n10, if_neg n00, if_neg n00]
      exact no
  · rw [if_neg c1, if_pos z00, if_pos z00]
    exact no
theorem mdp_L {R : Int → Int} (hR : zWR R) {ps : List zP2} (hps : zPok R ps) {wk d : Int} {v : zHp} (h3 : v 139 = R) (hn : (yBl R (zD R ps wk) 255 wk).length ≤ 676) (h1 : v 137 23 = ((yBl R (zD R ps wk) 255 wk).length : Int)) (h4 : ∀ i : Nat, i < (yBl R (zD R ps wk) 255 wk).length → v 149 (i : Int) = (yLq R (zD R ps wk) wk).getD i 0) (h2 : ∀ i : Nat, i < (yBl R (zD R ps wk) 255 wk).length → v 151 (i : Int) = (yB R 255 (yBl R (zD R ps wk) 255 wk) 0).getD i 0) : ∀ (m fu i : Nat) (x : Int), i + m = (yBl R (zD R ps wk) 255 wk).length → m < fu → 0 ≤ x → x ≤ 400 * (i : Int) → fX12_dayPay_L39 fu v d x (i : Int) = some (v, x + (yS (fun i => if zDy R ((yLq R (zD R ps wk) wk).getD i 0) = d then yHp R (yB R 255 (yBl R (zD R ps wk) 255 wk) 0) i else 0) (yBl R (zD R ps wk) 255 wk).length - yS (fun i => if zDy R ((yLq R (zD R ps wk) wk).getD i 0) = d then yHp R (yB R 255 (yBl R (zD R ps wk) 255 wk) 0) i else 0) i))
  | 0, fu, i, x, e1, e2, e3, e4 => by
    obtain ⟨k, rfl⟩ : ∃ k, fu = k + 1 := ⟨fu - 1, by omega⟩
    rw [fX12_dayPay_L39.eq_2, if_pos (by omega), show i = (yBl R (zD R ps wk) 255 wk).length by omega, Int.sub_self, Int.add_zero]
  | m + 1, fu, i, x, e1, e2, e3, e4 => by
    obtain ⟨k, rfl⟩ : ∃ k, fu = k + 1 := ⟨fu - 1, by omega⟩
    have hi : i < (yBl R (zD R ps wk) 255 wk).length := by omega
    obtain ⟨q, q1, q2, q3, q4, q5, q6⟩ := q_of hps hi
    have hii := yB_in hR (al := 255) (yBl R (zD R ps wk) 255 wk) 0 i hi
    have hb := yHn_b hR hii
    have eS : yS (fun i => if zDy R ((yLq R (zD R ps wk) wk).getD i 0) = d then yHp R (yB R 255 (yBl R (zD R ps wk) 255 wk) 0) i else 0) (i + 1) = yS (fun i => if zDy R ((yLq R (zD R ps wk) wk).getD i 0) = d then yHp R (yB R 255 (yBl R (zD R ps wk) 255 wk) 0) i else 0) i + (if zDy R ((yLq R (zD R ps wk) wk).getD i 0) = d then (100 + yHn R ((yB R 255 (yBl R (zD R ps wk) 255 wk) 0).getD i 0)) else 0) := rfl
    rw [q1] at eS
    rw [fX12_dayPay_L39.eq_2, if_neg (by omega), zck_pos (by omega), h4 i hi, q1, m_dayOf (by rw [h3]; exact hR.1) (by rw [h3]; exact ⟨q2, q3⟩), zcl_e, h3, m_hund hR h3 (by omega) (by rw [h2 i hi]; exact hii), zcl_e, h2 i hi, Int.add_zero]
    by_cases c : zDy R q = d
    · rw [if_neg (fun h => h c)]
      rw [if_pos c] at eS
      have ih := mdp_L (d := d) hR hps h3 hn h1 h4 h2 m k (i + 1) (x + (100 + yHn R ((yB R 255 (yBl R (zD R ps wk) 255 wk) 0).getD i 0))) (by omega) (by omega) (by omega) (by omega)
      rw [zn_pos (by omega), zn_pos (by omega), show (i : Int) + 1 = ((i + 1 : Nat) : Int) by omega, ih, eS]
      exact zpe (by omega)
    · rw [if_pos c]
      rw [if_neg c] at eS
      have ih := mdp_L (d := d) hR hps h3 hn h1 h4 h2 m k (i + 1) x (by omega) (by omega) e3 (by omega)
      rw [zn_pos (by omega), zn_pos (by omega), show (i : Int) + 1 = ((i + 1 : Nat) : Int) by omega, ih, eS]
      exact zpe (by omega)
/-- dayPay, both sides -/
theorem a_dayPay {vC vM : zHp} (hI : zInv vC vM) (x1 x2 : Int) : ∃ vC' vM' r, fX11_dayPay vC x1 x2 = some (vC', r) ∧ fX12_dayPay vM x1 x2 = some (vM', r) ∧ zInv vC' vM' := by
  obtain ⟨ru, cs, hs, R, hR, hC, hM, hT, hok, hV⟩ := hI
  have hM1 := hM.mv (zMP.thr (v := vM) 0)
  unfold fX11_dayPay fX12_dayPay
  rw [zb_e, c_isWorker, zcl_e, m_isWorker, zcl_e, m_within, zcl_e]
  have no : ∃ vC' vM' r, some (vC, (-1 : Int)) = some (vC', r) ∧ some (zst vM 137 0 0, (-1 : Int)) = some (vM', r) ∧ zInv vC' vM' := ⟨vC, _, -1, rfl, rfl, zInv_rd hR hM hT hok hV hC rfl rfl (zMP.thr 0)⟩
  by_cases c1 : 0 ≤ x1 ∧ x1 ≤ 3
  · by_cases c2 : 0 ≤ x2 ∧ x2 ≤ 27
    · rw [if_pos c1, if_neg n10, if_neg n10, if_neg (by omega : ¬ x2 < 0), if_pos (by omega : x2 < 28), if_pos c2, if_pos p10]
      obtain ⟨w, rfl⟩ : ∃ w : Nat, x1 = (w : Int) := ⟨x1.toNat, by omega⟩
      obtain ⟨wk, hwk⟩ : ∃ k : Nat, x2 / 7 = (k : Int) := ⟨(x2 / 7).toNat, by omega⟩
      have hps := (zPcs_ok hR (hok w (by omega))).1
      obtain ⟨vC', g1, g2, g3, g4, g5⟩ := c_sheetOf hR hC (w := w) (by omega) (hok w (by omega))
      obtain ⟨vM', q1, q2, ⟨q3, q4, q5⟩, q6, q7, q8, q9⟩ := m_laysWeek (w := w) (wk := (wk : Int)) (by omega) hM1.1 hR (hok w (by omega)) (hM1.2.2 w (by omega)) (by omega)
      have z1 := zQA_mono (R := R) (show 7 * (wk : Int) ≤ x2 by omega)
      have z2 := zQA_mono (R := R) (show x2 + 1 ≤ 7 * (wk : Int) + 7 by omega)
      obtain ⟨r1, r2, r3⟩ := sh_rows hR (hok w (by omega)) g3 (wk := wk) (by omega) (a := zQA R x2) (b := zQA R (x2 + 1)) z1 z2
      have r139 : vM' 139 = R := by rw [q2.1.2.1]; exact hM1.1
      have e := mdp_L (d := x2) hR hps r139 q6 q3 (fun i hi => (q5 i hi).1) (fun i hi => (q7 i hi).1) _ zFU 0 0 (Nat.zero_add _) (zFU_lt (by omega)) (Int.le_refl _) (by decide)
      have hb := yS_b (h := fun i => if zDy R ((yLq R (zD R (zPcs R (cs w)) (wk : Int)) (wk : Int)).getD i 0) = x2 then yHp R (yB R 255 (yBl R (zD R (zPcs R (cs w)) (wk : Int)) 255 (wk : Int)) 0) i else 0) (lo := 0) (hi := 400) (by decide) (by decide) (yBl R (zD R (zPcs R (cs w)) (wk : Int)) 255 (wk : Int)).length fun i hi => by
        have := yHn_b hR (yB_in hR (al := 255) (yBl R (zD R (zPcs R (cs w)) (wk : Int)) 255 (wk : Int)) 0 i hi)
        show 0 ≤ (if zDy R ((yLq R (zD R (zPcs R (cs w)) (wk : Int)) (wk : Int)).getD i 0) = x2 then 100 + yHn R ((yB R 255 (yBl R (zD R (zPcs R (cs w)) (wk : Int)) 255 (wk : Int)) 0).getD i 0) else 0) ∧ (if zDy R ((yLq R (zD R (zPcs R (cs w)) (wk : Int)) (wk : Int)).getD i 0) = x2 then 100 + yHn R ((yB R 255 (yBl R (zD R (zPcs R (cs w)) (wk : Int)) 255 (wk : Int)) 0).getD i 0) else 0) ≤ 400
        split <;> omega
      rw [show ((0 : Nat) : Int) = 0 from rfl, show yS (fun i => if zDy R ((yLq R (zD R (zPcs R (cs w)) (wk : Int)) (wk : Int)).getD i 0) = x2 then yHp R (yB R 255 (yBl R (zD R (zPcs R (cs w)) (wk : Int)) 255 (wk : Int)) 0) i else 0) 0 = 0 from rfl, Int.sub_zero, Int.zero_add] at e
      rw [Int.tdiv_eq_ediv_of_nonneg c2.1, hwk, g1, zcl_e, zb_e, Int.toNat_natCast, zn_pos (by omega), c_pod hR g2 (wk := wk) (by omega) (by omega) r1 (fun q b1 b2 b3 => yB_in hR _ _ _ (r3 q b1 b2 b3)), zcl_e, q1, zcl_e, e, zl_e, zck_pos (by decide), r139, zn_pos (rate_b hR (by omega)), day_part hR hps (by omega) (by omega)]
      exact ⟨_, _, _, rfl, rfl, zInv_rd hR hM hT hok hV g2 g4 g5 ((zMP.thr 0).tr q2)⟩
    · have e : (if x2 < 0 then (some (vC, (-1 : Int)) : Option (zHp × Int)) else if x2 < 28 then zcl (fX11_sheetOf vC x1) fun v4 r5 => zb (r5).toNat fun u7 => zn (x2 + 1) fun t8 => zcl (fX11_payOfDays v4 (u7 + 5) x2 t8) fun v9 r10 => some (v9, r10) else some (vC, -1)) = some (vC, -1) := by
        by_cases d : x2 < 0
        · rw [if_pos d]
        · rw [if_neg d, if_neg (by omega)]
      rw [if_pos c1, if_neg n10, if_neg n10, e, if_neg c2, if_neg n00]
      exact no
  · rw [if_neg c1, if_pos z00, if_pos z00]
    exact no
/-- the class's total -/
theorem total_L {R : Int → Int} {ru : Nat} {cs : Nat → List zP2} {hs : List zP4} (hR : zWR R) (hok : ∀ w : Nat, w < 4 → zCdOk R (cs w)) : ∀ (d fu k : Nat) (v : zHp), k + d = 4 → d < fu → zIC R ru cs hs v → ∃ v', fX11_total_L4 fu v (yPa R 255 cs k) (k : Int) = some (v', yPa R 255 cs 4) ∧ zIC R ru cs hs v' ∧ v' 1 = v 1 ∧ v' 2 = v 2
  | 0, fu, k, v, h1, h2, h3 => by
    obtain ⟨f, rfl⟩ : ∃ f, fu = f + 1 := ⟨fu - 1, by omega⟩
    refine ⟨v, ?_, h3, rfl, rfl⟩
    rw [fX11_total_L4.eq_2, if_pos (by omega), show k = 4 by omega]
  | d + 1, fu, k, v, h1, h2, h3 => by
    obtain ⟨f, rfl⟩ : ∃ f, fu = f + 1 := ⟨fu - 1, by omega⟩
    obtain ⟨u, g1, g2, g3, g4, g5⟩ := c_sheetOf hR h3 (w := k) (by omega) (hok k (by omega))
    obtain ⟨v', q1, q2, q3, q4⟩ := total_L hR hok d f (k + 1) u (by omega) (by omega) g2
    have b1 := yPa_b hR (al := 255) (cs := cs) k
    have b2 := yPw_b hR (al := 255) (ps := zPcs R (cs k))
    have eP : yPa R 255 cs (k + 1) = yPa R 255 cs k + yPw R 255 (zPcs R (cs k)) := rfl
    refine ⟨v', ?_, q2, by rw [q3, g4], by rw [q4, g5]⟩
    rw [← q1, eP, fX11_total_L4.eq_2, if_neg (by omega), g1, zcl_e, zb_e, Int.toNat_natCast, c_allPay hR g3, zcl_e, zn_pos (by omega), zn_pos (by omega), show (k : Int) + 1 = ((k + 1 : Nat) : Int) by omega]
theorem c_total {R : Int → Int} {ru : Nat} {cs : Nat → List zP2} {hs : List zP4} (hR : zWR R) (hok : ∀ w : Nat, w < 4 → zCdOk R (cs w)) {v : zHp} (h : zIC R ru cs hs v) : ∃ v', fX11_total v = some (v', yPa R 255 cs 4) ∧ zIC R ru cs hs v' ∧ v' 1 = v 1 ∧ v' 2 = v 2 := by
  obtain ⟨v', q1, q2, q3, q4⟩ := total_L hR hok 4 zFU 0 v rfl (zFU_lt (by decide)) h
  rw [show yPa R 255 cs 0 = 0 from rfl, show ((0 : Nat) : Int) = 0 from rfl] at q1
  refine ⟨v', ?_, q2, q3, q4⟩
  unfold fX11_total
  rw [q1]
  rfl
/-- total, both sides -/
theorem a_total {vC vM : zHp} (hI : zInv vC vM) : ∃ vC' vM' r, fX11_total vC = some (vC', r) ∧ fX12_total vM = some (vM', r) ∧ zInv vC' vM' := by
  obtain ⟨ru, cs, hs, R, hR, hC, hM, hT, hok, hV⟩ := hI
  have hM1 := hM.mv (zMP.thr (v := vM) 0)
  obtain ⟨vC', g1, g2, g3, g4⟩ := c_total hR hok hC
  obtain ⟨vM', q1, q2⟩ := m_allPay hR hok hM1.1 hM1.2.2
  refine ⟨vC', vM', _, g1, ?_, zInv_rd hR hM hT hok hV g2 g3 g4 ((zMP.thr 0).tr q2)⟩
  unfold fX12_total
  rw [zb_e, q1]
  rfl
