/-! PURE: premium, quarter: both sides. My own text. -/
/-- premium, both sides -/
theorem a_premium {vC vM : zHp} (hI : zInv vC vM) (x y : Int) : ∃ vC' vM', (∃ (r : Int) (vM1 : zHp), (fX11_premium vC x y = some (vC', r) ∧ fX12_premium vM x y = some (vM1, r) ∧ fX12_thrown vM1 = some (vM', 0)) ∨ (eX11_premium vC x y = some (vC', 0) ∧ fX12_premium vM x y = some (vM1, r) ∧ fX12_thrown vM1 = some (vM', 1))) ∧ zInv vC' vM' := by
  obtain ⟨ru, cs, hs, R, hR, hC, hM, hT, hok, hV⟩ := hI
  have h8 := hR.2.2.1
  have e1 : fX12_thrown (zst vM 137 0 1) = some (zst vM 137 0 1, 1) := by unfold fX12_thrown; rw [zst_eq]
  have e0 : fX12_thrown (zst vM 137 0 0) = some (zst vM 137 0 0, 0) := by unfold fX12_thrown; rw [zst_eq]
  have t1 : ∀ x : Int, zInv vC (zst vM 137 0 x) := fun x => zInv_rd hR hM hT hok hV hC rfl rfl (zMP.thr x)
  unfold fX11_premium eX11_premium fX12_premium fX12_premium_J28 fX12_premium_J29
  rw [c_isPremium hC.1 hC.2.2.1, m_premiums, zcl_e, zcl_e, hM.1, zn_pos (by omega)]
  simp only [m_within, zcl_e, zb_e, zst_eq]
  by_cases c1 : 0 ≤ x ∧ x < R 10
  · rw [if_pos c1, if_pos (by omega : 0 ≤ x ∧ x ≤ R 10 - 1), if_neg n10, if_neg n10, if_neg n10]
    by_cases c2 : 0 ≤ y ∧ y ≤ 4
    · obtain ⟨p, rfl⟩ : ∃ p : Nat, x = (p : Int) := ⟨x.toNat, by omega⟩
      obtain ⟨k0, k1, k2, k3, k4⟩ := c_pr hC.2.2.1 (p := p) (by omega)
      have hk := (hR.2.2.2 p (by omega)).2.2.2.2.1
      refine ⟨vC, zst vM 137 0 0, ⟨R (11 + 5 * (p : Int) + y), zst vM 137 0 0, Or.inl ⟨?_, ?_, e0⟩⟩, t1 0⟩
      · have hn : (vC 0 2).toNat = ru := by rw [hC.1.1]; rfl
        have hq : 0 ≤ vC 0 2 ∧ zK ru = (7, 10) := ⟨by rw [hC.1.1]; omega, by rcases hC.1.2 with h | h <;> rw [h] <;> rfl⟩
        rw [if_neg (by omega : ¬ y < 0), if_pos c2.2, hn, zck_pos hq, zck_pos (by omega), Int.toNat_natCast, k0, k1, k2, k3, k4]
        by_cases d0 : y = 0
        · rw [if_pos d0, d0]
        rw [if_neg d0]
        by_cases d1 : y = 1
        · rw [if_pos d1, d1]
        rw [if_neg d1]
        by_cases d2 : y = 2
        · rw [if_pos d2, d2]
          rcases hk with hk | hk
          · rw [hk, if_pos rfl]
          · rw [hk, if_neg n10]
        rw [if_neg d2]
        by_cases d3 : y = 3
        · rw [if_pos d3, d3]
        rw [if_neg d3, show y = 4 by omega]
      · rw [if_pos c2, if_neg n10, if_pos (by decide : (0 : Int) ≤ 0), m_prem (by omega) c2, zcl_e, zst_na (by decide), hM.1]
    · refine ⟨vC, zst vM 137 0 1, ⟨0, zst vM 137 0 1, Or.inr ⟨?_, ?_, e1⟩⟩, t1 1⟩
      · by_cases d : y < 0
        · rw [if_pos d]
        · rw [if_neg d, if_neg (by omega)]
      · rw [if_neg c2, if_pos z00, if_neg (by decide)]
  · refine ⟨vC, zst vM 137 0 1, ⟨0, zst vM 137 0 1, Or.inr ⟨?_, ?_, e1⟩⟩, t1 1⟩
    · rw [if_neg c1, if_pos z00]
    · rw [if_neg (by omega : ¬ (0 ≤ x ∧ x ≤ R 10 - 1)), if_pos z00, if_neg (by decide)]
/-- a week laid leaves the throwing mark -/
theorem m_laysWeek0 {w : Nat} {cd : List zP2} {v : zHp} {R : Int → Int} (hw : w < 4) (h3 : v 139 = R) (hR : zWR R) (hok : zCdOk R cd) (hc : zCdM v (w : Int) cd) {wk : Int} (hwk : 0 ≤ wk ∧ wk ≤ 3) {v' : zHp} (he : fX12_laysWeek v (w : Int) wk = some (v', 0)) : v' 137 0 = v 137 0 := by
  subst h3
  obtain ⟨u1, a1, a2, a3, a4, a5⟩ := m_laysWorked hw hR hok hc
  have r1 : u1 139 = v 139 := a4 139 (by decide) (by decide) (by decide) (by decide) (by decide)
  obtain ⟨u2, b1, b2, b3, b4⟩ := m_laysQuarters hR (zPcs_ok hR hok).1 hwk r1 a3
  obtain ⟨⟨c1, c2, c3⟩, hn⟩ := m_wk hR hwk b2
  have r2 : u2 139 = v 139 := by rw [b3 139 (by decide) (by decide) (by decide), r1]
  have hok2 := yBl_ok hR (D := zD (v 139) (zPcs (v 139) cd) wk) (al := 255) (wk := wk)
  obtain ⟨u3, d1, d2, d3⟩ := m_laysBest hR hok2 hn r2 (fun j hj => (c3 j hj).2) c1
  have r3 : u3 139 = v 139 := by rw [d3 139 (by decide) (by decide) (by decide), r2]
  obtain ⟨u4, e1, e2, e3, e4, e5⟩ := m_readsBest hR hok2 hn r3 (fun j hj => by rw [d3 150 (by decide) (by decide) (by decide)]; exact (c3 j hj).2) (by rw [d3 137 (by decide) (by decide) (by decide)]; exact c1) d2
  have r4 : u4 139 = v 139 := by rw [e4 139 (by decide) (by decide) (by decide), r3]
  obtain ⟨u5, f1, f2, f3, f4, f5⟩ := m_laysComing hR hok2 hn r4 (fun j hj => by rw [e4 150 (by decide) (by decide) (by decide), d3 150 (by decide) (by decide) (by decide)]; exact (c3 j hj).2) (by rw [e5 23 (by decide), d3 137 (by decide) (by decide) (by decide)]; exact c1)
  unfold fX12_laysWeek at he
  rw [a1, zcl_e, b1, zcl_e, d1, zcl_e, e1, zcl_e, f1, zcl_e] at he
  have e := (Prod.mk.inj (Option.some.inj he)).1
  rw [← e, f5 0 (by decide), e5 0 (by decide), d3 137 (by decide) (by decide) (by decide), b4 0 (by decide), a5 0 (by decide)]
theorem yMs_get {R : Int → Int} {al : Nat} : ∀ (l : List Nat) (c : Int) (i : Nat), i < l.length → (yMs R al l c).getD i 0 = l.getD i 0 ||| yWm R al ((yBc R al l c).getD i 0)
  | [], _, i, h => absurd h (Nat.not_lt_zero _)
  | b :: t, c, 0, _ => rfl
  | b :: t, c, i + 1, h => yMs_get t _ i (Nat.lt_of_succ_lt_succ h)
theorem zmk_self {m n : Nat} (h : m < 2 ^ n) : zmk m.testBit n = m := by
  apply Nat.eq_of_testBit_eq
  intro i
  rw [zmk_bit]
  by_cases c : i < n
  · rw [decide_eq_true c, Bool.true_and]
  · rw [decide_eq_false c, Bool.false_and]
    exact (Nat.testBit_lt_two_pow (Nat.lt_of_lt_of_le h (Nat.pow_le_pow_right (by decide) (by omega)))).symm
theorem qfind_L {v : zHp} {Q : List Int} {n : Nat} (hn : n ≤ 676) {q x3 : Int} {i0 : Nat} (hi : i0 < n) (h1 : ∀ i : Nat, i < n → v 149 (i : Int) = Q.getD i 0) (h2 : Q.getD i0 0 = q) (h3 : ∀ i : Nat, i < i0 → Q.getD i 0 ≠ q) : ∀ (d fu i : Nat), i + d = i0 → d < fu → fX12_quarter_L79 fu v q x3 (i : Int) = some (v, (i0 : Int))
  | 0, fu, i, e1, e2 => by
    obtain ⟨k, rfl⟩ : ∃ k, fu = k + 1 := ⟨fu - 1, by omega⟩
    have e : i = i0 := by omega
    rw [fX12_quarter_L79.eq_2, zck_pos (by omega), h1 i (by omega), e, if_pos h2]
  | d + 1, fu, i, e1, e2 => by
    obtain ⟨k, rfl⟩ : ∃ k, fu = k + 1 := ⟨fu - 1, by omega⟩
    rw [fX12_quarter_L79.eq_2, zck_pos (by omega), h1 i (by omega), if_neg (h3 i (by omega)), zn_pos (by omega), show (i : Int) + 1 = ((i + 1 : Nat) : Int) by omega]
    exact qfind_L hn hi h1 h2 h3 d k (i + 1) (by omega) (by omega)
theorem qmay_L {R : Int → Int} (hR : zWR R) {v : zHp} (h3 : v 139 = R) {b : Nat} (hb : b < 2 ^ 31) (hk : ∀ p : Nat, p < (R 10).toNat → R (11 + 5 * (p : Int) + 0) = 1 → b.testBit p = false) {i c : Int} (hi : 0 ≤ i ∧ i < 680) (hv : v 150 i = (b : Int)) (hv2 : v 153 i = c) : ∀ (m fu p : Nat), p + m = (R 10).toNat → m < fu → fX12_quarter_L162 fu v i ((zmk (b ||| yWm R 255 c).testBit p : Nat) : Int) (p : Int) = some (v, ((zmk (b ||| yWm R 255 c).testBit (R 10).toNat : Nat) : Int))
  | 0, fu, p, h1, h2 => by
    obtain ⟨k, rfl⟩ : ∃ k, fu = k + 1 := ⟨fu - 1, by omega⟩
    have h8 := hR.2.2.1
    rw [fX12_quarter_L162.eq_2, m_premiums, zcl_e, h3, if_pos (by omega), show p = (R 10).toNat by omega]
  | m + 1, fu, p, h1, h2 => by
    obtain ⟨k, rfl⟩ : ∃ k, fu = k + 1 := ⟨fu - 1, by omega⟩
    have h8 := hR.2.2.1
    have ih := qmay_L hR h3 hb hk hi hv hv2 m k (p + 1) (by omega) (by omega)
    rw [fX12_quarter_L162.eq_2, m_premiums, zcl_e, h3, if_neg (by omega), zck_pos hi, hv2, m_canBe hR h3 hb hk hi hv (by omega), zcl_e, zn_pos (by omega), zn_pos (by omega), show (p : Int) + 1 = ((p + 1 : Nat) : Int) by omega, ← ih]
    cases a : (b ||| yWm R 255 c).testBit p with
    | false =>
      rw [if_pos (by decide), zmk_skip a, show (0 : Int) = ((0 : Nat) : Int) from rfl, zor_n (zmk_31 (by omega)) (by decide), Nat.or_zero]
    | true => rw [if_neg (by decide), zmk_step (by omega) a]
/-- quarter, both sides -/
theorem a_quarter {vC vM : zHp} (hI : zInv vC vM) (x1 x2 x3 : Int) : ∃ vC' vM', (∃ (r : Int) (vM1 : zHp), (fX11_quarter vC x1 x2 x3 = some (vC', r) ∧ fX12_quarter vM x1 x2 x3 = some (vM1, r) ∧ fX12_thrown vM1 = some (vM', 0)) ∨ (eX11_quarter vC x1 x2 x3 = some (vC', 0) ∧ fX12_quarter vM x1 x2 x3 = some (vM1, r) ∧ fX12_thrown vM1 = some (vM', 1))) ∧ zInv vC' vM' := by
  obtain ⟨ru, cs, hs, R, hR, hC, hM, hT, hok, hV⟩ := hI
  have h8 := hR.2.2.1
  have hM1 := hM.mv (zMP.thr (v := vM) 0)
  have e1 : fX12_thrown (zst vM 137 0 1) = some (zst vM 137 0 1, 1) := by unfold fX12_thrown; rw [zst_eq]
  have t1 : zInv vC (zst vM 137 0 1) := zInv_rd hR hM hT hok hV hC rfl rfl (zMP.thr 1)
  unfold fX11_quarter eX11_quarter fX12_quarter fX12_quarter_J22 fX12_quarter_J23
  rw [c_isWorker, zcl_e, zcl_e, m_isWorker, zcl_e, m_within, zcl_e, zb_e, zst_eq, zb_e, zst_eq]
  by_cases c1 : 0 ≤ x1 ∧ x1 ≤ 3
  · rw [if_pos c1, if_neg n10, if_neg n10, if_neg n10]
    by_cases c3 : 0 ≤ x3 ∧ x3 ≤ 4
    · rw [if_pos c3, if_neg n10, if_neg (by omega : ¬ x3 < 0), if_pos c3.2, if_pos (by decide : (0 : Int) ≤ 0)]
      obtain ⟨w, rfl⟩ : ∃ w : Nat, x1 = (w : Int) := ⟨x1.toNat, by omega⟩
      have hokw := hok w (by omega)
      have hps := (zPcs_ok hR hokw).1
      obtain ⟨vC', g1, g2, g3, g4, g5⟩ := c_sheetOf hR hC (w := w) (by omega) hokw
      obtain ⟨a1, a2, a3, a4, a5, a6⟩ := id g2
      obtain ⟨m1, p1, p2, p3, p4, p5⟩ := m_laysWorked (w := w) (v := zst vM 137 0 0) (by omega) (by rw [hM1.1]; exact hR) (by rw [hM1.1]; exact hokw) (hM1.2.2 w (by omega))
      rw [hM1.1] at p3
      have mp1 : zMP vM m1 := (zMP.thr 0).tr (zMP.mk' (fun a ha => p4 a (by omega) (by omega) (by omega) (by omega) (by omega)) (fun j hj => p5 j (by omega)))
      have t0 : m1 137 0 = 0 := by rw [p5 0 (by decide), zst_eq]
      have eT : fX12_thrown m1 = some (m1, 0) := by unfold fX12_thrown; rw [t0]
      have hz := @zQA_b R 28
      have hz0 := zQA_mono (R := R) (show 0 ≤ 28 by decide)
      rw [zQA_0 hR.1] at hz0
      rw [g1, zcl_e, zb_e, Int.toNat_natCast, c_ru a1, c_quartersAhead a3.2.1 hR.1 (by decide), zcl_e, p1, zcl_e, m_within, zcl_e]
      have nope : zInv vC' m1 := zInv_rd hR hM hT hok hV g2 g4 g5 mp1
      by_cases c2 : 0 ≤ x2 ∧ x2 < zQA R 28
      · rw [if_neg (by omega : ¬ x2 < 0), if_neg (by omega : ¬ zQA R 28 ≤ x2), if_pos (by omega : 0 ≤ x2 ∧ x2 ≤ 2719), if_neg n10, zck_pos (by omega : 0 ≤ x2 ∧ x2 < 2692), zck_pos (by omega : 0 ≤ x2 ∧ x2 < 2720), p3 x2 (by omega) (by omega)]
        have hwd := sh_wd hR hokw g3 c2
        cases hw : zWd (zPcs R (cs w)) x2 with
        | false =>
          have h1 := hwd.mpr hw
          rw [if_neg (fun h => h h1), if_neg (by decide)]
          exact ⟨vC', m1, ⟨-2, m1, Or.inl ⟨rfl, rfl, eT⟩⟩, nope⟩
        | true =>
          have h1 : vC' (29 + (4 + 18 * w) + 5) x2 ≠ -2 := fun h => by
            have := hwd.mp h
            rw [hw] at this
            exact absurd this (by decide)
          have hd := zDy_b hR.1 c2
          have hdi := zDy_in hR.1 c2
          obtain ⟨wk, hwk⟩ : ∃ k : Nat, zDy R x2 / 7 = (k : Int) := ⟨(zDy R x2 / 7).toNat, by omega⟩
          have z1 := zQA_mono (R := R) (show 7 * (wk : Int) ≤ zDy R x2 by omega)
          have z2 := zQA_mono (R := R) (show zDy R x2 + 1 ≤ 7 * (wk : Int) + 7 by omega)
          have hD : zD R (zPcs R (cs w)) (wk : Int) x2 = true := zD_iff.mpr ⟨hw, by omega, by omega⟩
          have hM2 := hM.mv mp1
          obtain ⟨vM', q1, q2, ⟨q3, q4, q5⟩, q6, q7, q8, q9⟩ := m_laysWeek (w := w) (wk := (wk : Int)) (by omega) hM2.1 hR hokw (hM2.2.2 w (by omega)) (by omega)
          have t2 : vM' 137 0 = 0 := by rw [m_laysWeek0 (by omega) hM2.1 hR hokw (hM2.2.2 w (by omega)) (by omega) q1, t0]
          have eT2 : fX12_thrown vM' = some (vM', 0) := by unfold fX12_thrown; rw [t2]
          have r139 : vM' 139 = R := by rw [q2.1.2.1]; exact hM2.1
          have fin : zInv vC' vM' := zInv_rd hR hM hT hok hV g2 g4 g5 (mp1.tr q2)
          -- its place
          have hat := yQL_at (D := zD R (zPcs R (cs w)) (wk : Int)) (b := zQA R (7 * (wk : Int) + 7)) c2.1 hD (by omega)
          have hin : zN (zD R (zPcs R (cs w)) (wk : Int)) x2 < (yBl R (zD R (zPcs R (cs w)) (wk : Int)) 255 (wk : Int)).length := by rw [yBl_len]; exact hat.1
          have hfind := qfind_L (v := vM') (Q := yLq R (zD R (zPcs R (cs w)) (wk : Int)) (wk : Int)) q6 (q := x2) (x3 := x3) hin (fun i hi => (q5 i hi).1) hat.2 (fun i hi h => by
            obtain ⟨q, b1, b2, b3, b4, b5, b6⟩ := q_of (R := R) hps (wk := (wk : Int)) (i := i) (by omega)
            rw [b1] at h
            rw [h] at b5
            omega) _ zFU 0 (Nat.zero_add _) (zFU_lt (by omega))
          rw [show ((0 : Nat) : Int) = 0 from rfl] at hfind
          obtain ⟨s1, s2, s3⟩ : vC' (29 + (4 + 18 * w) + 5) x2 = (yB R 255 (yBl R (zD R (zPcs R (cs w)) (wk : Int)) 255 (wk : Int)) 0).getD (zN (zD R (zPcs R (cs w)) (wk : Int)) x2) 0 ∧ vC' (29 + (4 + 18 * w) + 6) x2 = (yCm R 255 (yBl R (zD R (zPcs R (cs w)) (wk : Int)) 255 (wk : Int)) 0).getD (zN (zD R (zPcs R (cs w)) (wk : Int)) x2) 0 ∧ vC' (29 + (4 + 18 * w) + 7) x2 = (((yMs R 255 (yBl R (zD R (zPcs R (cs w)) (wk : Int)) 255 (wk : Int)) 0).getD (zN (zD R (zPcs R (cs w)) (wk : Int)) x2) 0 : Nat) : Int) := by
            obtain ⟨P, E, _, _, _, _, h7, _, _⟩ := id g3
            obtain ⟨b1, b2, b3⟩ := (h7 wk (by omega)).1 x2 (by omega) (by omega)
            rw [if_pos hD] at b1 b2
            exact ⟨b1, b2, b3 hD⟩
          obtain ⟨o1, o2, o3⟩ := q7 _ hin
          obtain ⟨i1, i2⟩ := q5 _ hin
          rw [if_pos h1, if_pos (show (if (true : Bool) = true then (1 : Int) else 0) ≠ 0 by decide), m_dayOf (by rw [hM2.1]; exact hR.1) (by rw [hM2.1]; exact c2), zcl_e, hM2.1, Int.tdiv_eq_ediv_of_nonneg hd.1, hwk, q1, zcl_e, hfind, zl_e, c_ru a1, c_ru a1, zn_pos (by omega), zn_pos (by omega), c_hourAt a3.2.1 hR.1 c2, zcl_e, m_dayOf (by rw [r139]; exact hR.1) (by rw [r139]; exact c2), zcl_e, r139, m_hourOf (by rw [r139]; exact hR.1) (by rw [r139]; exact c2), zcl_e, r139]
          have hTo := (zTo_in (R := R) hR.1 (m := 15 * x2) (by omega)).mpr (by omega)
          rw [show x2 * 15 = 15 * x2 by omega, c_toldAt a3.2.1 hR.1 (by omega), zcl_e, Int.tdiv_eq_ediv_of_nonneg hTo.1]
          by_cases d0 : x3 = 0
          · rw [if_pos d0, if_pos d0]
            exact ⟨vC', vM', ⟨_, vM', Or.inl ⟨rfl, rfl, eT2⟩⟩, fin⟩
          rw [if_neg d0, if_neg d0]
          by_cases d1 : x3 = 1
          · rw [if_pos d1, if_pos d1]
            exact ⟨vC', vM', ⟨_, vM', Or.inl ⟨rfl, rfl, eT2⟩⟩, fin⟩
          rw [if_neg d1, if_neg d1]
          by_cases d2 : x3 = 2
          · rw [if_pos d2, if_pos d2, zck_pos (by omega), zck_pos (by omega), s1, o1]
            exact ⟨vC', vM', ⟨_, vM', Or.inl ⟨rfl, rfl, eT2⟩⟩, fin⟩
          rw [if_neg d2, if_neg d2]
          by_cases d3 : x3 = 3
          · rw [if_pos d3, if_pos d3, zck_pos (by omega), zck_pos (by omega), s2, o2]
            exact ⟨vC', vM', ⟨_, vM', Or.inl ⟨rfl, rfl, eT2⟩⟩, fin⟩
          rw [if_neg d3, if_neg d3, zck_pos (by omega), s3]
          have hok3 := yBl_ok hR (D := zD R (zPcs R (cs w)) (wk : Int)) (al := 255) (wk := (wk : Int)) _ hin
          have hmay := qmay_L hR r139 hok3.1 hok3.2 (i := ((zN (zD R (zPcs R (cs w)) (wk : Int)) x2 : Nat) : Int)) (by omega) i2 o3 (R 10).toNat zFU 0 (by omega) (zFU_lt (by omega))
          have hmm : (yBl R (zD R (zPcs R (cs w)) (wk : Int)) 255 (wk : Int)).getD (zN (zD R (zPcs R (cs w)) (wk : Int)) x2) 0 ||| yWm R 255 ((yBc R 255 (yBl R (zD R (zPcs R (cs w)) (wk : Int)) 255 (wk : Int)) 0).getD (zN (zD R (zPcs R (cs w)) (wk : Int)) x2) 0) < 2 ^ (R 10).toNat := by
            refine Nat.or_lt_two_pow ?_ (Nat.lt_of_le_of_lt Nat.and_le_left (zmk_lt _))
            rw [yBl_get (by rw [yBl_len] at hin; exact hin)]
            exact zmk_lt _
          rw [show ((zmk ((yBl R (zD R (zPcs R (cs w)) (wk : Int)) 255 (wk : Int)).getD (zN (zD R (zPcs R (cs w)) (wk : Int)) x2) 0 ||| yWm R 255 ((yBc R 255 (yBl R (zD R (zPcs R (cs w)) (wk : Int)) 255 (wk : Int)) 0).getD (zN (zD R (zPcs R (cs w)) (wk : Int)) x2) 0)).testBit 0 : Nat) : Int) = 0 from rfl, show ((0 : Nat) : Int) = 0 from rfl, zmk_self hmm, ← yMs_get _ _ _ hin] at hmay
          rw [hmay, zl_e]
          exact ⟨vC', vM', ⟨_, vM', Or.inl ⟨rfl, rfl, eT2⟩⟩, fin⟩
      · have eC : ∀ X : Option (zHp × Int), (if x2 < 0 then some (vC', (-2 : Int)) else if zQA R 28 ≤ x2 then some (vC', -2) else X) = some (vC', -2) := fun X => by
          by_cases d : x2 < 0
          · rw [if_pos d]
          · rw [if_neg d, if_pos (by omega)]
        rw [eC]
        by_cases c4 : 0 ≤ x2 ∧ x2 ≤ 2719
        · have hw : zWd (zPcs R (cs w)) x2 = false := Bool.eq_false_iff.mpr fun h => c2 (zWd_b hps h)
          rw [if_pos c4, if_neg n10, zck_pos (by omega), p3 x2 (by omega) (by omega), hw, if_neg (by decide)]
          exact ⟨vC', m1, ⟨-2, m1, Or.inl ⟨rfl, rfl, eT⟩⟩, nope⟩
        · rw [if_neg c4, if_pos z00]
          exact ⟨vC', m1, ⟨-2, m1, Or.inl ⟨rfl, rfl, eT⟩⟩, nope⟩
    · refine ⟨vC, zst vM 137 0 1, ⟨0, zst vM 137 0 1, Or.inr ⟨?_, ?_, e1⟩⟩, t1⟩
      · by_cases d : x3 < 0
        · rw [if_pos d]
        · rw [if_neg d, if_neg (by omega)]
      · rw [if_neg c3, if_pos z00, if_neg (by decide)]
  · refine ⟨vC, zst vM 137 0 1, ⟨0, zst vM 137 0 1, Or.inr ⟨?_, ?_, e1⟩⟩, t1⟩
    · rw [if_neg c1, if_pos z00]
    · rw [if_neg c1, if_pos z00, if_neg (by decide)]
