/-! PURE: worth: both sides. My own text. -/
theorem m_payOf2 {w : Nat} {cd : List zP2} {v : zHp} {R : Int → Int} (hw : w < 4) (h3 : v 139 = R) (hR : zWR R) (hok : zCdOk R cd) (hc : zCdM v (w : Int) cd) : ∃ v', fX12_payOf v (w : Int) = some (v', yPw R 255 (zPcs R cd)) ∧ zMP v v' ∧ v' 140 = v 140 := by
  subst h3
  obtain ⟨u1, a1, a2, a3, a4, a5⟩ := m_laysWorked hw hR hok hc
  have r1 : u1 139 = v 139 := a4 139 (by decide) (by decide) (by decide) (by decide) (by decide)
  obtain ⟨u2, b1, b2, b3⟩ := payOf_L hR (zPcs_ok hR hok).1 4 zFU 0 u1 rfl (zFU_lt (by decide)) r1 a3
  rw [show yPy (v 139) 255 (zPcs (v 139) cd) 0 = 0 from rfl, show ((0 : Nat) : Int) = 0 from rfl] at b1
  have hb := yPw_b hR (al := 255) (ps := zPcs (v 139) cd)
  refine ⟨u2, ?_, zMP.mk' (fun a ha => by rw [b2 a (by omega) (by omega) (by omega) (by omega) (by omega) (by omega), a4 a (by omega) (by omega) (by omega) (by omega) (by omega)]) (fun j hj => by rw [b3 j (by omega), a5 j (by omega)]), by rw [b2 140 (by decide) (by decide) (by decide) (by decide) (by decide) (by decide), a4 140 (by decide) (by decide) (by decide) (by decide) (by decide)]⟩
  unfold fX12_payOf
  rw [a1, zcl_e, b1, zl_e, zck_pos (by decide), b2 139 (by decide) (by decide) (by decide) (by decide) (by decide) (by decide), r1]
  unfold yPw at hb ⊢
  rw [zn_pos (by omega)]
theorem allPay_L2 {R : Int → Int} (hR : zWR R) {cs : Nat → List zP2} (hok : ∀ w : Nat, w < 4 → zCdOk R (cs w)) : ∀ (d fu k : Nat) (v : zHp), k + d = 4 → d < fu → v 139 = R → (∀ w : Nat, w < 4 → zCdM v (w : Int) (cs w)) → ∃ v', fX12_allPay_L4 fu v (yPa R 255 cs k) (k : Int) = some (v', yPa R 255 cs 4) ∧ zMP v v' ∧ v' 140 = v 140
  | 0, fu, k, v, h1, h2, h3, h4 => by
    obtain ⟨f, rfl⟩ : ∃ f, fu = f + 1 := ⟨fu - 1, by omega⟩
    refine ⟨v, ?_, zMP.rfl', rfl⟩
    rw [fX12_allPay_L4.eq_2, if_pos (by omega), show k = 4 by omega]
  | d + 1, fu, k, v, h1, h2, h3, h4 => by
    obtain ⟨f, rfl⟩ : ∃ f, fu = f + 1 := ⟨fu - 1, by omega⟩
    obtain ⟨u, a1, a2, a3⟩ := m_payOf2 (w := k) (by omega) h3 hR (hok k (by omega)) (h4 k (by omega))
    have b1 := yPa_b hR (al := 255) (cs := cs) k
    have b2 := yPw_b hR (al := 255) (ps := zPcs R (cs k))
    obtain ⟨v', g1, g2, g3⟩ := allPay_L2 hR hok d f (k + 1) u (by omega) (by omega) (by rw [a2.1.2.1]; exact h3) (fun w hw => (h4 w hw).mv a2)
    refine ⟨v', ?_, a2.tr g2, g3.trans a3⟩
    have eP : yPa R 255 cs (k + 1) = yPa R 255 cs k + yPw R 255 (zPcs R (cs k)) := rfl
    have hk : (k : Int) ≤ 3 := by omega
    rw [← g1, eP, fX12_allPay_L4.eq_2, if_neg (by omega), a1, zcl_e, zn_pos (by omega), zn_pos (by omega), show (k : Int) + 1 = ((k + 1 : Nat) : Int) by omega]
theorem m_allPay2 {R : Int → Int} (hR : zWR R) {cs : Nat → List zP2} (hok : ∀ w : Nat, w < 4 → zCdOk R (cs w)) {v : zHp} (h3 : v 139 = R) (h4 : ∀ w : Nat, w < 4 → zCdM v (w : Int) (cs w)) : ∃ v', fX12_allPay v = some (v', yPa R 255 cs 4) ∧ zMP v v' ∧ v' 140 = v 140 := by
  obtain ⟨v', g1, g2⟩ := allPay_L2 hR hok 4 zFU 0 v rfl (zFU_lt (by decide)) h3 h4
  rw [show yPa R 255 cs 0 = 0 from rfl, show ((0 : Nat) : Int) = 0 from rfl] at g1
  refine ⟨v', ?_, g2⟩
  unfold fX12_allPay
  rw [g1]
  rfl
theorem w28_L {x1 x2 : Int} : ∀ (d fu k : Nat) (v : zHp), k + d = 51 → d < fu → (∀ j : Nat, j < k → v 140 (j : Int) = v 139 (j : Int)) → ∃ v', fX12_worth_L28 fu v x1 x2 (k : Int) = some (v', 0) ∧ (∀ j : Nat, j < 51 → v' 140 (j : Int) = v 139 (j : Int)) ∧ ∀ a, a ≠ 140 → v' a = v a
  | 0, fu, k, v, e1, e2, e3 => by
    obtain ⟨f, rfl⟩ : ∃ f, fu = f + 1 := ⟨fu - 1, by omega⟩
    refine ⟨v, ?_, fun j hj => e3 j (by omega), fun a _ => rfl⟩
    rw [fX12_worth_L28.eq_2, if_pos (by omega)]
  | d + 1, fu, k, v, e1, e2, e3 => by
    obtain ⟨f, rfl⟩ : ∃ f, fu = f + 1 := ⟨fu - 1, by omega⟩
    have na : ∀ a, a ≠ 140 → zst v 140 (k : Int) (v 139 (k : Int)) a = v a := fun a ha => by funext j; exact zst_na ha
    obtain ⟨v', g1, g2, g3⟩ := w28_L (x1 := x1) (x2 := x2) d f (k + 1) (zst v 140 (k : Int) (v 139 (k : Int))) (by omega) (by omega) (fun j hj => by
      rw [na 139 (by decide), zst_if]
      by_cases c : j = k
      · rw [if_pos (by omega), c]
      · rw [if_neg (by omega)]
        exact e3 j (by omega))
    refine ⟨v', ?_, fun j hj => by rw [g2 j hj, na 139 (by decide)], fun a ha => by rw [g3 a ha, na a ha]⟩
    rw [fX12_worth_L28.eq_2, if_neg (by omega), zck_pos (by omega), zck_pos (by omega), zb_e, zn_pos (by omega), show (k : Int) + 1 = ((k + 1 : Nat) : Int) by omega]
    exact g1
theorem w59_L {R : Int → Int} {x2 : Int} {s : Nat} : ∀ (d fu k : Nat) (v : zHp), k + 5 + d = 51 → d < fu → s ≤ k → (∀ j : Int, v 139 j = if (s : Int) ≤ j ∧ j < (k : Int) then R (j + 5) else R j) → ∃ v', fX12_worth_L59 fu v x2 (k : Int) = some (v', 0) ∧ (∀ j : Int, v' 139 j = if (s : Int) ≤ j ∧ j < 46 then R (j + 5) else R j) ∧ ∀ a, a ≠ 139 → v' a = v a
  | 0, fu, k, v, e1, e2, e3, e4 => by
    obtain ⟨f, rfl⟩ : ∃ f, fu = f + 1 := ⟨fu - 1, by omega⟩
    refine ⟨v, ?_, fun j => ?_, fun a _ => rfl⟩
    · rw [fX12_worth_L59.eq_2, zn_pos (by omega), if_pos (by omega)]
    · rw [e4 j, show (k : Int) = 46 by omega]
  | d + 1, fu, k, v, e1, e2, e3, e4 => by
    obtain ⟨f, rfl⟩ : ∃ f, fu = f + 1 := ⟨fu - 1, by omega⟩
    have na : ∀ a, a ≠ 139 → zst v 139 (k : Int) (v 139 ((k : Int) + 5)) a = v a := fun a ha => by funext j; exact zst_na ha
    obtain ⟨v', g1, g2, g3⟩ := w59_L (R := R) (x2 := x2) (s := s) d f (k + 1) (zst v 139 (k : Int) (v 139 ((k : Int) + 5))) (by omega) (by omega) (by omega) (fun j => by
      rw [zst_if]
      by_cases c : j = (k : Int)
      · rw [if_pos c, e4, if_neg (by omega), if_pos (by omega), c]
      · rw [if_neg c, e4]
        by_cases g : (s : Int) ≤ j ∧ j < (k : Int)
        · rw [if_pos g, if_pos (by omega)]
        · rw [if_neg g, if_neg (by omega)])
    refine ⟨v', ?_, g2, fun a ha => by rw [g3 a ha, na a ha]⟩
    rw [fX12_worth_L59.eq_2, zn_pos (by omega), if_neg (by omega), zck_pos (by omega), zck_pos (by omega), zb_e, zn_pos (by omega), show (k : Int) + 1 = ((k + 1 : Nat) : Int) by omega]
    exact g1
theorem takes_L : ∀ (d fu k : Nat) (v : zHp), k + d = 51 → d < fu → (∀ j : Nat, j < k → v 139 (j : Int) = v 140 (j : Int)) → ∃ v', fX12_takes_L2 fu v (k : Int) = some (v', 0) ∧ (∀ j : Nat, j < 51 → v' 139 (j : Int) = v 140 (j : Int)) ∧ (∀ j : Int, (j < 0 ∨ 51 ≤ j) → v' 139 j = v 139 j) ∧ ∀ a, a ≠ 139 → v' a = v a
  | 0, fu, k, v, e1, e2, e3 => by
    obtain ⟨f, rfl⟩ : ∃ f, fu = f + 1 := ⟨fu - 1, by omega⟩
    refine ⟨v, ?_, fun j hj => e3 j (by omega), fun j _ => rfl, fun a _ => rfl⟩
    rw [fX12_takes_L2.eq_2, if_pos (by omega)]
  | d + 1, fu, k, v, e1, e2, e3 => by
    obtain ⟨f, rfl⟩ : ∃ f, fu = f + 1 := ⟨fu - 1, by omega⟩
    have na : ∀ a, a ≠ 139 → zst v 139 (k : Int) (v 140 (k : Int)) a = v a := fun a ha => by funext j; exact zst_na ha
    obtain ⟨v', g1, g2, g3, g4⟩ := takes_L d f (k + 1) (zst v 139 (k : Int) (v 140 (k : Int))) (by omega) (by omega) (fun j hj => by
      rw [na 140 (by decide), zst_if]
      by_cases c : j = k
      · rw [if_pos (by omega), c]
      · rw [if_neg (by omega)]
        exact e3 j (by omega))
    refine ⟨v', ?_, fun j hj => by rw [g2 j hj, na 140 (by decide)], fun j hj => by rw [g3 j hj, zst_nj (by omega)], fun a ha => by rw [g4 a ha, na a ha]⟩
    rw [fX12_takes_L2.eq_2, if_neg (by omega), zck_pos (by omega), zck_pos (by omega), zb_e, zn_pos (by omega), show (k : Int) + 1 = ((k + 1 : Nat) : Int) by omega]
    exact g1
/-- the draft taken -/
theorem m_takes (v : zHp) : ∃ v', fX12_takes v = some (v', 0) ∧ (∀ j : Int, v' 139 j = if 0 ≤ j ∧ j < 51 then v 140 j else v 139 j) ∧ ∀ a, a ≠ 139 → v' a = v a := by
  obtain ⟨v', g1, g2, g3, g4⟩ := takes_L 51 zFU 0 v rfl (zFU_lt (by decide)) (fun j hj => absurd hj (Nat.not_lt_zero _))
  rw [show ((0 : Nat) : Int) = 0 from rfl] at g1
  refine ⟨v', ?_, fun j => ?_, g4⟩
  · unfold fX12_takes
    rw [g1]
    rfl
  · by_cases c : 0 ≤ j ∧ j < 51
    · have := g2 j.toNat (by omega)
      rw [show ((j.toNat : Nat) : Int) = j by omega] at this
      rw [if_pos c, this]
    · rw [if_neg c, g3 j (by omega)]
/-- the class: the trial sheet, a premium left out -/
theorem cw_L {R : Int → Int} {ru : Nat} {cs : Nat → List zP2} {hs : List zP4} (hR : zWR R) (hok : ∀ w : Nat, w < 4 → zCdOk R (cs w)) {p : Nat} (hp : p < 8) : ∀ (d fu k : Nat) (v : zHp), k + d = 4 → d < fu → zIC R ru cs hs v → ∃ v', fX11_worth_L14 fu v (p : Int) (yPa R (yAl p) cs k) (k : Int) = some (v', yPa R (yAl p) cs 4) ∧ zIC R ru cs hs v' ∧ v' 1 = v 1 ∧ v' 2 = v 2
  | 0, fu, k, v, h1, h2, h3 => by
    obtain ⟨f, rfl⟩ : ∃ f, fu = f + 1 := ⟨fu - 1, by omega⟩
    refine ⟨v, ?_, h3, rfl, rfl⟩
    rw [fX11_worth_L14.eq_2, if_pos (by omega), show k = 4 by omega]
  | d + 1, fu, k, v, h1, h2, h3 => by
    obtain ⟨f, rfl⟩ : ∃ f, fu = f + 1 := ⟨fu - 1, by omega⟩
    obtain ⟨a1, a2, a3, a4, a5, a6⟩ := id h3
    obtain ⟨e1, e2⟩ := yAl_z p hp
    obtain ⟨u, g1, g2, g3, g4⟩ := c_renew (al := yAl p) hR (by omega) (zSC_tw k (by omega)) (hok k (by omega)) a3 (a6 k (by omega)).1 a5
    have hu : zIC R ru cs hs u := h3.of hR (fun a ha => g4 a (by omega) (by omega)) (fun x hx a ha hb => g4 a (by omega) (by omega)) (g2.toI hR (hok k (by omega))) (fun x hx => (a6 x hx).2.of fun a ha hb => g4 a (by omega) (by omega))
    have b1 := yPa_b hR (al := yAl p) (cs := cs) k
    have b2 := yPw_b hR (al := yAl p) (ps := zPcs R (cs k))
    have hk : (k : Int) ≤ 3 := by omega
    obtain ⟨v', q1, q2, q3, q4⟩ := cw_L hR hok hp d f (k + 1) u (by omega) (by omega) hu
    refine ⟨v', ?_, q2, by rw [q3, g4 1 (by omega) (by omega)], by rw [q4, g4 2 (by omega) (by omega)]⟩
    have eP : yPa R (yAl p) cs (k + 1) = yPa R (yAl p) cs k + yPw R (yAl p) (zPcs R (cs k)) := rfl
    rw [← q1, eP, fX11_worth_L14.eq_2, if_neg (by omega), zck_pos (by omega), Int.toNat_natCast, zb_e, c_ru a1, e1, g1, zcl_e, c_allPay hR g2, zcl_e, zn_pos (by omega), zn_pos (by omega), show (k : Int) + 1 = ((k + 1 : Nat) : Int) by omega]
theorem a_worth {vC vM : zHp} (hI : zInv vC vM) (x1 : Int) : ∃ vC' vM' r, fX11_worth vC x1 = some (vC', r) ∧ fX12_worth vM x1 = some (vM', r) ∧ zInv vC' vM' := by
  obtain ⟨ru, cs, hs, R, hR, hC, hM, hT, hok, hV⟩ := hI
  have hM1 := hM.mv (zMP.thr (v := vM) 0)
  have h8 := hR.2.2.1
  unfold fX11_worth fX12_worth
  rw [zb_e, m_premiums, zcl_e, hM1.1, zn_pos (by omega), m_within, zcl_e, c_isPremium hC.1 hC.2.2.1, zcl_e]
  by_cases c : 0 ≤ x1 ∧ x1 < R 10
  · obtain ⟨p, rfl⟩ : ∃ p : Nat, x1 = (p : Int) := ⟨x1.toNat, by omega⟩
    rw [if_pos c, if_pos p10, if_pos (by omega : 0 ≤ (p : Int) ∧ (p : Int) ≤ R 10 - 1), if_pos p10]
    obtain ⟨u1, a1, a2, a3, a4⟩ := cw_L (cs := cs) (hs := hs) hR hok (p := p) (by omega) 4 zFU 0 vC rfl (zFU_lt (by decide)) hC
    obtain ⟨u2, b1, b2, b3, b4⟩ := c_total hR hok a2
    obtain ⟨m1, c1, c2, c3⟩ := m_allPay2 hR hok hM1.1 hM1.2.2
    have hm1 := hM1.mv c2
    obtain ⟨m2, d1, d2, d3⟩ := w28_L (x1 := (p : Int)) (x2 := yPa R 255 cs 4) 51 zFU 0 m1 rfl (zFU_lt (by decide)) (fun j hj => absurd hj (Nat.not_lt_zero _))
    have r2 : m2 139 = R := by rw [d3 139 (by decide)]; exact hm1.1
    obtain ⟨m3, e1, e2, e3⟩ := w59_L (R := R) (x2 := yPa R 255 cs 4) (s := 11 + 5 * p) (46 - (11 + 5 * p)) zFU (11 + 5 * p) m2 (by omega) (zFU_lt (by omega)) (Nat.le_refl _) (fun j => by rw [if_neg (by omega), r2])
    have f1 : m3 139 10 - 1 = R 10 - 1 := by
      rw [e2, if_neg (by omega)]
    have hm4 : ∀ j : Int, zst m3 139 10 (R 10 - 1) 139 j = if j = 10 then R 10 - 1 else if 11 + 5 * (p : Int) ≤ j ∧ j < 46 then R (j + 5) else R j := fun j => by
      rw [zst_if, e2, show ((11 + 5 * p : Nat) : Int) = 11 + 5 * (p : Int) by omega]
    have na4 : ∀ a, a ≠ 139 → zst m3 139 10 (R 10 - 1) a = m1 a ∨ a = 140 := fun a ha => by
      by_cases h : a = 140
      · exact Or.inr h
      · left
        funext j
        rw [zst_na ha, e3 a ha, d3 a h]
    have hx : zRx R (zst m3 139 10 (R 10 - 1) 139) p := by
      refine ⟨fun k k0 k1 => ?_, ?_, c.2, fun i f hi h0 h4 => ?_⟩
      · rw [hm4, if_neg (by omega), if_neg (by omega)]
      · rw [hm4, if_pos rfl]
      · rw [hm4, if_neg (by omega)]
        unfold zSg
        by_cases g : i < p
        · rw [if_neg (by omega), if_pos g]
        · rw [if_pos (by omega), if_neg g, show 11 + 5 * (i : Int) + f + 5 = 11 + 5 * ((i + 1 : Nat) : Int) + f by omega]
    have hR' := hx.wr hR
    have hcd4 : ∀ w : Nat, w < 4 → zCdM (zst m3 139 10 (R 10 - 1)) (w : Int) (cs w) := fun w hw => by
      have := hm1.2.2 w hw
      unfold zCdM at this ⊢
      rw [(na4 141 (by decide)).resolve_right (by decide), (na4 142 (by decide)).resolve_right (by decide), (na4 143 (by decide)).resolve_right (by decide)]
      exact this
    obtain ⟨m5, g1, g2, g3⟩ := m_allPay2 hR' (fun w hw => hx.1.ok (hok w hw)) rfl hcd4
    obtain ⟨m6, i1, i2, i3⟩ := m_takes m5
    have q1 := yPa_b hR (al := 255) (cs := cs) 4
    have q2 := yPa_b hR (al := yAl p) (cs := cs) 4
    rw [show yPa R (yAl p) cs 0 = 0 from rfl, show ((0 : Nat) : Int) = 0 from rfl] at a1
    rw [show ((0 : Nat) : Int) = 0 from rfl] at d1
    rw [show ((11 + 5 * p : Nat) : Int) = 11 + 5 * (p : Int) by omega] at e1
    rw [yPa_x hR hx] at g1
    have hp8 : (p : Int) ≤ 7 := by omega
    rw [a1, zl_e, b1, zcl_e, zn_pos (by omega), c1, zcl_e, d1, zl_e, zn_pos (by omega), e1, zl_e, zck_pos (by decide), f1, zn_pos (by omega), zck_pos (by decide), zb_e, g1, zcl_e, i1, zcl_e, zn_pos (by omega)]
    have r6 : m6 139 = R := by
      funext j
      rw [i2]
      by_cases h : 0 ≤ j ∧ j < 51
      · have := d2 j.toNat (by omega)
        rw [show ((j.toNat : Nat) : Int) = j by omega] at this
        rw [if_pos h, g3, zst_na (by decide), e3 140 (by decide), this, hm1.1]
      · rw [if_neg h, g2.1.2.1, hm4, if_neg (by omega), if_neg (by omega)]
    have mp6 : ∀ a, a ≠ 139 → a ≠ 140 → (a = 138 ∨ a = 141 ∨ a = 142 ∨ a = 143 ∨ a = 144) → m6 a = m1 a := fun a h1 h2 h3 => by
      rw [i3 a h1]
      have h4 := (na4 a h1).resolve_right h2
      rw [← h4]
      obtain ⟨⟨t1, t2, t3, t4, t5, t6⟩, t7, t8⟩ := id g2
      rcases h3 with rfl | rfl | rfl | rfl | rfl
      · exact t1
      · exact t3
      · exact t4
      · exact t5
      · exact t6
    have mp : zMP m1 m6 := by
      refine ⟨⟨mp6 138 (by decide) (by decide) (by decide), by rw [r6, hm1.1], mp6 141 (by decide) (by decide) (by decide), mp6 142 (by decide) (by decide) (by decide), mp6 143 (by decide) (by decide) (by decide), mp6 144 (by decide) (by decide) (by decide)⟩, ?_, ?_⟩
      · rw [i3 137 (by decide), g2.2.1, (na4 137 (by decide)).resolve_right (by decide)]
      · rw [i3 137 (by decide), g2.2.2, (na4 137 (by decide)).resolve_right (by decide)]
    exact ⟨u2, m6, _, rfl, rfl, zInv_rd hR hM hT hok hV b2 (b3.trans a3) (b4.trans a4) (((zMP.thr 0).tr c2).tr mp)⟩
  · rw [if_neg c, if_neg n00, if_neg (by omega : ¬ (0 ≤ x1 ∧ x1 ≤ R 10 - 1)), if_neg n00]
    exact ⟨vC, _, -1, rfl, rfl, zInv_rd hR hM hT hok hV hC rfl rfl (zMP.thr 0)⟩
