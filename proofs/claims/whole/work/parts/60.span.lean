/-! PURE: span, punched, together: both sides. My own text. -/
/-- a worker's sheet, renewed if it must be; and nothing else -/
theorem c_sheetOfF {R : Int → Int} {ru : Nat} {cs : Nat → List zP2} {hs : List zP4} {v : zHp} (hR : zWR R) (hI : zIC R ru cs hs v) {w : Nat} (hw : w < 4) (hok : zCdOk R (cs w)) : ∃ v', fX11_sheetOf v (w : Int) = some (v', ((29 + (4 + 18 * w) : Nat) : Int)) ∧ zIC R ru cs hs v' ∧ zShF R v' (29 + (4 + 18 * w)) 255 (cs w) ∧ ∀ a : Nat, (a < 29 + (4 + 18 * w) ∨ 29 + (4 + 18 * w) + 14 < a) → (a < 125 ∨ 136 < a) → v' a = v a := by
  obtain ⟨a1, a2, a3, a4, a5, a6⟩ := id hI
  obtain ⟨b1, b2, b3⟩ := a6 w hw
  obtain ⟨u, g1, g2, g3, _, _⟩ := c_sheetOf hR hI hw hok
  refine ⟨u, g1, g2, g3, fun a ha hb => ?_⟩
  unfold fX11_sheetOf at g1
  rw [zck_pos (by omega), Int.toNat_natCast, zb_e] at g1
  by_cases c : v (29 + (4 + 18 * w)) 0 = 0
  · rw [if_pos c] at g1
    have e := (Prod.mk.inj (Option.some.inj g1)).1
    rw [e]
  · rw [if_neg c, zck_pos (by omega), zb_e, c_ru a1] at g1
    obtain ⟨v', q1, q2, q3, q4⟩ := c_renew (al := 255) hR (by decide) (zSC_w w hw) hok a3 b1 b2
    rw [show ((255 : Nat) : Int) = 255 from rfl] at q1
    rw [q1, zcl_e] at g1
    have e := (Prod.mk.inj (Option.some.inj g1)).1
    rw [← e]
    exact q4 a ha hb
def zCf (R : Int → Int) (s : zP2) (q : Int) : Int := if 0 < R 1 ∧ R 1 < s.2 - s.1 then min (q - s.1) (R 1) + max 0 (q - (s.1 + R 1 + R 2)) else q - s.1
theorem zCf_end {R : Int → Int} (h2 : 0 ≤ R 2) {s : zP2} : zCf R s s.2 = zWc R s := by
  unfold zCf zWc
  by_cases c : 0 < R 1 ∧ R 1 < s.2 - s.1
  · rw [if_pos c, if_pos c]
    split <;> omega
  · rw [if_neg c, if_neg c]
theorem zCf_up {R : Int → Int} (h2 : 0 ≤ R 2) {s : zP2} {q : Int} (hq : s.1 ≤ q ∧ q < s.2) : zCf R s (q + 1) = zCf R s q + (if zSw R s q then 1 else 0) := by
  unfold zCf zSw
  by_cases c : 0 < R 1 ∧ R 1 < s.2 - s.1
  · rw [if_pos c, if_pos c]
    split <;> omega
  · rw [if_neg c, if_neg c]
    split <;> omega
theorem span_L {v : zHp} (hR : zWR (v 139)) {sp : List zP2} (hs : zSpM v sp) (hl : sp.length ≤ 30) {i : Nat} (hi : i < sp.length) {x3 : Int} (hb : 0 ≤ (sp.getD i zp0).1 ∧ (sp.getD i zp0).2 ≤ zQA (v 139) 28) : ∀ (d fu : Nat) (q : Int), q + (d : Int) = (sp.getD i zp0).2 → (sp.getD i zp0).1 ≤ q → d < fu → fX12_span_L66 fu v (i : Int) x3 (zCf (v 139) (sp.getD i zp0) q) q = some (v, zWc (v 139) (sp.getD i zp0))
  | 0, fu, q, h1, h2, h3 => by
    obtain ⟨k, rfl⟩ : ∃ k, fu = k + 1 := ⟨fu - 1, by omega⟩
    obtain ⟨s1, s2⟩ := hs.2 i hi
    rw [fX12_span_L66.eq_2, zck_pos (by omega), if_pos (by omega), show q = (sp.getD i zp0).2 by omega, zCf_end hR.2.1.2.2.2.2.1]
  | d + 1, fu, q, h1, h2, h3 => by
    obtain ⟨k, rfl⟩ : ∃ k, fu = k + 1 := ⟨fu - 1, by omega⟩
    obtain ⟨s1, s2⟩ := hs.2 i hi
    have hz := @zQA_b (v 139) 28
    have hr := hR.2.1
    have ih := span_L (x3 := x3) hR hs hl hi hb d k (q + 1) (by omega) (by omega) (by omega)
    rw [zCf_up hr.2.2.2.2.1 ⟨h2, by omega⟩] at ih
    have hc : -10000 ≤ zCf (v 139) (sp.getD i zp0) q ∧ zCf (v 139) (sp.getD i zp0) q ≤ 10000 := by
      unfold zCf
      split <;> omega
    rw [fX12_span_L66.eq_2, zck_pos (by omega), if_neg (by omega), m_isOfSpan hR hs hl hi hb ⟨h2, by omega⟩, zcl_e, zn_pos (by omega), zn_pos (by omega), zn_pos (by omega), zn_pos (by omega)]
    by_cases c : zSw (v 139) (sp.getD i zp0) q
    · rw [if_pos c] at ih
      rw [if_pos c, if_neg n10]
      exact ih
    · rw [if_neg c] at ih
      rw [if_neg c, if_pos rfl]
      exact ih
/-- span, both sides -/
theorem a_span {vC vM : zHp} (hI : zInv vC vM) (x1 x2 x3 : Int) : ∃ vC' vM' r, fX11_span vC x1 x2 x3 = some (vC', r) ∧ fX12_span vM x1 x2 x3 = some (vM', r) ∧ zInv vC' vM' := by
  obtain ⟨ru, cs, hs, R, hR, hC, hM, hT, hok, hV⟩ := hI
  have hM1 := hM.mv (zMP.thr (v := vM) 0)
  unfold fX11_span fX12_span
  rw [zb_e, c_isWorker, zcl_e, m_isWorker, zcl_e]
  by_cases c1 : 0 ≤ x1 ∧ x1 ≤ 3
  · rw [if_pos c1, if_pos p10, if_pos p10]
    obtain ⟨w, rfl⟩ : ∃ w : Nat, x1 = (w : Int) := ⟨x1.toNat, by omega⟩
    have hokw := hok w (by omega)
    obtain ⟨vC', g1, g2, g3, g4, g5⟩ := c_sheetOf hR hC (w := w) (by omega) hokw
    obtain ⟨vM', q1, q2, q3, q4, q5⟩ := m_pairs (w := w) (v := zst vM 137 0 0) (by omega) (by rw [hM1.1]; exact hR) (by rw [hM1.1]; exact hokw) (hM1.2.2 w (by omega))
    have r139 : vM' 139 = R := by rw [q4 139 (by decide) (by decide) (by decide) (by decide)]; exact hM1.1
    rw [hM1.1] at q2
    change zSpM vM' (zSpa R (cs w)) at q2
    have hmp : zMP vM vM' := (zMP.thr 0).tr (zMP.mk' (fun a ha => q4 a (by omega) (by omega) (by omega) (by omega)) (fun j hj => q5 j (by omega)))
    obtain ⟨P, E, _, _, _, _, _, s8, _⟩ := id g3
    obtain ⟨t1, t2⟩ := s8
    have hlen := (zPcs_ok hR hokw).2
    have hsok : ∀ i : Nat, i < (zSpa R (cs w)).length → 0 ≤ ((zSpa R (cs w)).getD i zp0).1 ∧ ((zSpa R (cs w)).getD i zp0).1 ≤ ((zSpa R (cs w)).getD i zp0).2 ∧ ((zSpa R (cs w)).getD i zp0).2 ≤ zQA R 28 := (zSp_ok (R := R) ⟨hR.2.1.1, hR.2.1.2.1⟩ hokw (cs w).length (Nat.le_refl _)).1
    have hz := @zQA_b R 28
    have fin : ∀ x : Int, ∃ a b r, some (vC', x) = some (a, r) ∧ some (vM', x) = some (b, r) ∧ zInv a b := fun x => ⟨_, _, _, rfl, rfl, zInv_rd hR hM hT hok hV g2 g4 g5 hmp⟩
    rw [g1, zcl_e, zb_e, Int.toNat_natCast, q1, zcl_e, t1, q2.1]
    by_cases c2 : x2 = -1
    · rw [if_neg (fun h => h c2), if_neg (fun h => h c2)]
      exact fin _
    rw [if_pos c2, if_pos c2, zn_pos (by omega), m_within, zcl_e]
    by_cases c3 : 0 ≤ x2 ∧ x2 ≤ ((zSpa R (cs w)).length : Int) - 1
    · rw [if_neg (by omega : ¬ x2 < 0), if_pos (by omega : x2 < ((zSpa R (cs w)).length : Int)), if_pos c3, if_neg n10, m_within, zcl_e]
      obtain ⟨i, rfl⟩ : ∃ i : Nat, x2 = (i : Int) := ⟨x2.toNat, by omega⟩
      have hi : i < (zSpa R (cs w)).length := by omega
      obtain ⟨t3, t4, t5⟩ := t2 i hi
      obtain ⟨u1, u2⟩ := q2.2 i hi
      obtain ⟨b1, b2, b3⟩ := hsok i hi
      by_cases c4 : 0 ≤ x3 ∧ x3 ≤ 2
      · have e := span_L (v := vM') (by rw [r139]; exact hR) q2 hlen hi (x3 := x3) (by rw [r139]; exact ⟨b1, b3⟩) (((zSpa R (cs w)).getD i zp0).2 - ((zSpa R (cs w)).getD i zp0).1).toNat zFU ((zSpa R (cs w)).getD i zp0).1 (by
          have b2' : ((zSpa R (cs w)).getD i zp0).1 ≤ ((zSpa R (cs w)).getD i zp0).2 := b2
          omega) (Int.le_refl _) (zFU_lt (by
          have b3' : ((zSpa R (cs w)).getD i zp0).2 ≤ zQA R 28 := b3
          have b1' : 0 ≤ ((zSpa R (cs w)).getD i zp0).1 := b1
          omega))
        have e0 : zCf (vM' 139) ((zSpa R (cs w)).getD i zp0) ((zSpa R (cs w)).getD i zp0).1 = 0 := by
          have hr := hR.2.1
          rw [r139]
          unfold zCf
          split <;> omega
        rw [e0, r139] at e
        rw [if_pos c4, if_pos p10, zck_pos (by omega), u1, e, zl_e, zck_pos (by omega), t3, t4, t5, u1, u2]
        have h31 : 0 ≤ (i : Int) ∧ (i : Int) < 31 := by omega
        have h30 : 0 ≤ (i : Int) ∧ (i : Int) < 30 := by omega
        simp only [zck_pos h31, zck_pos h30]
        by_cases d0 : x3 = 0
        · rw [if_pos d0, if_neg (fun h => h d0)]
          exact fin _
        rw [if_neg d0, if_pos d0]
        by_cases d1 : x3 = 1
        · rw [if_pos d1, if_neg (fun h => h d1)]
          exact fin _
        rw [if_neg d1, if_pos d1, if_pos (by omega : x3 = 2)]
        exact fin _
      · rw [if_neg c4, if_neg n00, if_neg (by omega : ¬ x3 = 0), if_neg (by omega : ¬ x3 = 1), if_neg (by omega : ¬ x3 = 2)]
        exact fin _
    · have e : ∀ X : Option (zHp × Int), (if x2 < 0 then some (vC', (-1 : Int)) else if x2 < ((zSpa R (cs w)).length : Int) then X else some (vC', -1)) = some (vC', -1) := fun X => by
        by_cases d : x2 < 0
        · rw [if_pos d]
        · rw [if_neg d, if_neg (by omega)]
      rw [e, if_neg c3, if_pos z00]
      exact fin _
  · rw [if_neg c1, if_neg n00, if_neg n00]
    exact ⟨vC, _, -1, rfl, rfl, zInv_rd hR hM hT hok hV hC rfl rfl (zMP.thr 0)⟩
/-- punched, both sides -/
theorem a_punched {vC vM : zHp} (hI : zInv vC vM) (x1 x2 x3 : Int) : ∃ vC' vM' r, fX11_punched vC x1 x2 x3 = some (vC', r) ∧ fX12_punched vM x1 x2 x3 = some (vM', r) ∧ zInv vC' vM' := by
  obtain ⟨ru, cs, hs, R, hR, hC, hM, hT, hok, hV⟩ := hI
  have hM1 := hM.mv (zMP.thr (v := vM) 0)
  unfold fX11_punched fX12_punched fX12_punched_J18
  rw [zb_e, c_isWorker, zcl_e, m_isWorker, zcl_e, m_isWorker, zcl_e]
  have fin0 : ∀ x : Int, ∃ a b r, some (vC, x) = some (a, r) ∧ some (zst vM 137 0 0, x) = some (b, r) ∧ zInv a b := fun x => ⟨_, _, _, rfl, rfl, zInv_rd hR hM hT hok hV hC rfl rfl (zMP.thr 0)⟩
  by_cases c1 : 0 ≤ x1 ∧ x1 ≤ 3
  · rw [if_pos c1, if_pos p10, if_neg n10, if_neg n10]
    obtain ⟨w, rfl⟩ : ∃ w : Nat, x1 = (w : Int) := ⟨x1.toNat, by omega⟩
    have hokw := hok w (by omega)
    obtain ⟨d1, d2⟩ := (hC.2.2.2.2.2 w (by omega)).1
    obtain ⟨f1, f2⟩ := hM1.2.2 w (by omega)
    have hl := hokw.1
    rw [zck_pos (show 0 ≤ (w : Int) ∧ (w : Int) < 4 by omega), Int.toNat_natCast, zb_e, d1, zck_pos (show 0 ≤ (w : Int) ∧ (w : Int) < 4 by omega), f1, zck_pos (show 0 ≤ (w : Int) ∧ (w : Int) < 4 by omega), zn_pos (by omega)]
    by_cases c2 : x2 = -1
    · rw [if_neg (fun h => h c2), if_neg (fun h => h c2)]
      exact fin0 _
    rw [if_pos c2, if_pos c2, m_within, zcl_e]
    by_cases c3 : 0 ≤ x2 ∧ x2 ≤ ((cs w).length : Int) - 1
    · rw [if_neg (by omega : ¬ x2 < 0), if_pos (by omega : x2 < ((cs w).length : Int)), if_pos c3, if_neg n10, m_within, zcl_e]
      obtain ⟨i, rfl⟩ : ∃ i : Nat, x2 = (i : Int) := ⟨x2.toNat, by omega⟩
      have hi : i < (cs w).length := by omega
      obtain ⟨d3, d4⟩ := d2 i hi
      by_cases c4 : 0 ≤ x3 ∧ x3 ≤ 2
      · obtain ⟨vM', q1, q2, q3, q4, q5⟩ := m_pairs (w := w) (v := zst vM 137 0 0) (by omega) (by rw [hM1.1]; exact hR) (by rw [hM1.1]; exact hokw) (hM1.2.2 w (by omega))
        have hmp : zMP vM vM' := (zMP.thr 0).tr (zMP.mk' (fun a ha => q4 a (by omega) (by omega) (by omega) (by omega)) (fun j hj => q5 j (by omega)))
        have f3 : zCdM vM' (w : Int) (cs w) := (hM.2.2 w (by omega)).mv hmp
        obtain ⟨f4, f5⟩ := f3.2 i hi
        rw [hM1.1] at q3
        rw [if_pos c4, if_pos p10, q1, zcl_e, zck_pos (by omega), zck_pos (by omega), zck_pos (by omega), f4, f5, q3 i hi, zck_pos (by omega), zck_pos (by omega), d3, d4]
        by_cases e0 : x3 = 0
        · rw [if_pos e0, if_neg (fun h => h e0)]
          exact ⟨_, _, _, rfl, rfl, zInv_rd hR hM hT hok hV hC rfl rfl hmp⟩
        rw [if_neg e0, if_pos e0]
        by_cases e1 : x3 = 1
        · rw [if_pos e1, if_neg (fun h => h e1)]
          exact ⟨_, _, _, rfl, rfl, zInv_rd hR hM hT hok hV hC rfl rfl hmp⟩
        rw [if_neg e1, if_pos e1, if_pos (by omega : x3 = 2)]
        obtain ⟨vC', g1, g2, g3, g4, g5⟩ := c_sheetOf hR hC (w := w) (by omega) hokw
        obtain ⟨P, E, _, _, _, _, _, _, s9⟩ := id g3
        rw [g1, zcl_e, zb_e, Int.toNat_natCast, zck_pos (by omega), s9 i hi]
        exact ⟨_, _, _, rfl, rfl, zInv_rd hR hM hT hok hV g2 g4 g5 hmp⟩
      · rw [if_neg c4, if_neg n00, if_neg (by omega : ¬ x3 = 0), if_neg (by omega : ¬ x3 = 1), if_neg (by omega : ¬ x3 = 2)]
        exact fin0 _
    · have e : ∀ X : Option (zHp × Int), (if x2 < 0 then some (vC, (-1 : Int)) else if x2 < ((cs w).length : Int) then X else some (vC, -1)) = some (vC, -1) := fun X => by
        by_cases d : x2 < 0
        · rw [if_pos d]
        · rw [if_neg d, if_neg (by omega)]
      rw [e, if_neg c3, if_pos z00]
      exact fin0 _
  · rw [if_neg c1, if_neg n00, if_pos z00, if_pos z00]
    exact fin0 _
/-! together -/
theorem sh_wd {R : Int → Int} (hR : zWR R) {v : zHp} {a0 al : Nat} {cd : List zP2} (hok : zCdOk R cd) (h : zShF R v a0 al cd) {q : Int} (hq : 0 ≤ q ∧ q < zQA R 28) : v (a0 + 5) q = -2 ↔ zWd (zPcs R cd) q = false := by
  have hd := zDy_b hR.1 hq
  have hdi := zDy_in hR.1 hq
  obtain ⟨wk, hwk⟩ : ∃ k : Nat, zDy R q / 7 = (k : Int) := ⟨(zDy R q / 7).toNat, by omega⟩
  have z1 := zQA_mono (R := R) (show 7 * (wk : Int) ≤ zDy R q by omega)
  have z2 := zQA_mono (R := R) (show zDy R q + 1 ≤ 7 * (wk : Int) + 7 by omega)
  obtain ⟨r1, r2, r3⟩ := sh_rows hR hok h (wk := wk) (by omega) (a := zQA R (7 * (wk : Int))) (b := zQA R (7 * (wk : Int) + 7)) (Int.le_refl _) (Int.le_refl _)
  rw [r1 q (by omega) (by omega)]
  by_cases c : zWd (zPcs R cd) q = true
  · have hD : zD R (zPcs R cd) (wk : Int) q = true := zD_iff.mpr ⟨c, by omega, by omega⟩
    have := yB_in hR (al := al) (yBl R (zD R (zPcs R cd) (wk : Int)) al (wk : Int)) 0 _ (r3 q (by omega) (by omega) hD)
    rw [if_pos hD, c]
    constructor
    · intro h1
      have h2 : (yB R al (yBl R (zD R (zPcs R cd) (wk : Int)) al (wk : Int)) 0).getD (zN (zD R (zPcs R cd) (wk : Int)) q) 0 = -2 := h1
      omega
    · intro h1
      exact absurd h1 (by decide)
  · have hD : ¬ zD R (zPcs R cd) (wk : Int) q = true := fun h => c (zD_iff.mp h).1
    rw [if_neg hD]
    exact ⟨fun _ => Bool.eq_false_iff.mpr c, fun _ => rfl⟩
abbrev yHt (p1 p2 : List zP2) : Nat → Int := fun i => if zWd p1 (i : Int) = true ∧ zWd p2 (i : Int) = true then 1 else 0
theorem tog_L {R : Int → Int} {v : zHp} {a b : Nat} {p1 p2 : List zP2} {N : Nat} (hN : N ≤ 2692) (h1 : ∀ q : Int, 0 ≤ q → q < (N : Int) → (v a q = -2 ↔ zWd p1 q = false)) (h2 : ∀ q : Int, 0 ≤ q → q < (N : Int) → (v b q = -2 ↔ zWd p2 q = false)) : ∀ (d fu q : Nat) (x : Int), q + d = N → d < fu → 0 ≤ x → x ≤ (q : Int) → fX11_together_L60 fu v a b (N : Int) x (q : Int) = some (v, x + (yS (yHt p1 p2) N - yS (yHt p1 p2) q))
  | 0, fu, q, x, e1, e2, e3, e4 => by
    obtain ⟨k, rfl⟩ : ∃ k, fu = k + 1 := ⟨fu - 1, by omega⟩
    rw [fX11_together_L60.eq_2, if_pos (by omega), show q = N by omega, Int.sub_self, Int.add_zero]
  | d + 1, fu, q, x, e1, e2, e3, e4 => by
    obtain ⟨k, rfl⟩ : ∃ k, fu = k + 1 := ⟨fu - 1, by omega⟩
    have f1 := h1 (q : Int) (by omega) (by omega)
    have f2 := h2 (q : Int) (by omega) (by omega)
    have eS : yS (yHt p1 p2) (q + 1) = yS (yHt p1 p2) q + (if zWd p1 (q : Int) = true ∧ zWd p2 (q : Int) = true then 1 else 0) := rfl
    have ih0 := tog_L (R := R) hN h1 h2 d k (q + 1) x (by omega) (by omega) e3 (by omega)
    have ih1 := tog_L (R := R) hN h1 h2 d k (q + 1) (x + 1) (by omega) (by omega) (by omega) (by omega)
    rw [eS] at ih0 ih1
    rw [fX11_together_L60.eq_2, if_neg (by omega), zck_pos (by omega), zck_pos (by omega), zn_pos (by omega), zn_pos (by omega), zn_pos (by omega), show (q : Int) + 1 = ((q + 1 : Nat) : Int) by omega]
    by_cases c1 : v a (q : Int) = -2
    · have d1 := f1.mp c1
      rw [if_neg (by rw [d1]; rintro ⟨h, _⟩; exact absurd h (by decide))] at ih0
      rw [if_pos c1, ih0]
      exact zpe (by omega)
    · by_cases c2 : v b (q : Int) = -2
      · have d2 := f2.mp c2
        rw [if_neg (by rw [d2]; rintro ⟨_, h⟩; exact absurd h (by decide))] at ih0
        rw [if_neg c1, if_pos c2, ih0]
        exact zpe (by omega)
      · have d1 : zWd p1 (q : Int) = true := by
          cases h : zWd p1 (q : Int) with
          | true => rfl
          | false => exact absurd (f1.mpr h) c1
        have d2 : zWd p2 (q : Int) = true := by
          cases h : zWd p2 (q : Int) with
          | true => rfl
          | false => exact absurd (f2.mpr h) c2
        rw [if_pos ⟨d1, d2⟩] at ih1
        rw [if_neg c1, if_neg c2, ih1]
        exact zpe (by omega)
theorem mcp_L {ps : List zP2} {x2 : Int} : ∀ (d fu q : Nat) (v : zHp), q + d = 2720 → d < fu → (∀ x : Int, 0 ≤ x → x < 2720 → v 148 x = if zWd ps x then 1 else 0) → (∀ x : Int, 0 ≤ x → x < (q : Int) → v 160 x = if zWd ps x then 1 else 0) → ∃ v', fX12_together_L35 fu v x2 (q : Int) = some (v', 0) ∧ (∀ x : Int, 0 ≤ x → x < 2720 → v' 160 x = if zWd ps x then 1 else 0) ∧ ∀ a, a ≠ 160 → v' a = v a
  | 0, fu, q, v, e1, e2, e3, e4 => by
    obtain ⟨k, rfl⟩ : ∃ k, fu = k + 1 := ⟨fu - 1, by omega⟩
    refine ⟨v, ?_, fun x a b => e4 x a (by omega), fun a _ => rfl⟩
    rw [fX12_together_L35.eq_2, if_pos (by omega)]
  | d + 1, fu, q, v, e1, e2, e3, e4 => by
    obtain ⟨k, rfl⟩ : ∃ k, fu = k + 1 := ⟨fu - 1, by omega⟩
    have hv := e3 (q : Int) (by omega) (by omega)
    have na : ∀ a, a ≠ 160 → zst v 160 (q : Int) (v 148 (q : Int)) a = v a := fun a ha => by funext j; exact zst_na ha
    obtain ⟨v', g1, g2, g3⟩ := mcp_L (ps := ps) (x2 := x2) d k (q + 1) (zst v 160 (q : Int) (v 148 (q : Int))) (by omega) (by omega) (by rw [na 148 (by decide)]; exact e3) (fun x a b => by
      rw [zst_if]
      by_cases c : x = (q : Int)
      · rw [if_pos c, hv, c]
      · rw [if_neg c]
        exact e4 x a (by omega))
    refine ⟨v', ?_, g2, fun a ha => by rw [g3 a ha, na a ha]⟩
    rw [fX12_together_L35.eq_2, if_neg (by omega), zck_pos (by omega), zck_pos (by omega), zck_pos (by rw [hv]; split <;> decide), zb_e, zn_pos (by omega), show (q : Int) + 1 = ((q + 1 : Nat) : Int) by omega]
    exact g1
theorem mtog_L {p1 p2 : List zP2} {v : zHp} (h1 : ∀ x : Int, 0 ≤ x → x < 2720 → v 160 x = if zWd p1 x then 1 else 0) (h2 : ∀ x : Int, 0 ≤ x → x < 2720 → v 148 x = if zWd p2 x then 1 else 0) : ∀ (d fu q : Nat) (x : Int), q + d = 2720 → d < fu → 0 ≤ x → x ≤ (q : Int) → fX12_together_L70 fu v x (q : Int) = some (v, x + (yS (yHt p1 p2) 2720 - yS (yHt p1 p2) q))
  | 0, fu, q, x, e1, e2, e3, e4 => by
    obtain ⟨k, rfl⟩ : ∃ k, fu = k + 1 := ⟨fu - 1, by omega⟩
    rw [fX12_together_L70.eq_2, if_pos (by omega), show q = 2720 by omega, Int.sub_self, Int.add_zero]
  | d + 1, fu, q, x, e1, e2, e3, e4 => by
    obtain ⟨k, rfl⟩ : ∃ k, fu = k + 1 := ⟨fu - 1, by omega⟩
    have f1 := h1 (q : Int) (by omega) (by omega)
    have f2 := h2 (q : Int) (by omega) (by omega)
    have eS : yS (yHt p1 p2) (q + 1) = yS (yHt p1 p2) q + (if zWd p1 (q : Int) = true ∧ zWd p2 (q : Int) = true then 1 else 0) := rfl
    have ih0 := mtog_L h1 h2 d k (q + 1) x (by omega) (by omega) e3 (by omega)
    have ih1 := mtog_L h1 h2 d k (q + 1) (x + 1) (by omega) (by omega) (by omega) (by omega)
    rw [eS] at ih0 ih1
    rw [fX12_together_L70.eq_2, if_neg (by omega), zck_pos (by omega), zck_pos (by omega), f1, f2, Int.add_zero, zn_pos (by omega), zn_pos (by omega), zn_pos (by omega), zn_pos (by omega), show (q : Int) + 1 = ((q + 1 : Nat) : Int) by omega]
    cases d1 : zWd p1 (q : Int) with
    | false =>
      rw [if_neg (by rw [d1]; rintro ⟨h, _⟩; exact absurd h (by decide))] at ih0
      rw [if_pos (by decide), ih0]
      exact zpe (by omega)
    | true =>
      rw [if_neg (by decide)]
      cases d2 : zWd p2 (q : Int) with
      | false =>
        rw [if_neg (by rw [d2]; rintro ⟨_, h⟩; exact absurd h (by decide))] at ih0
        rw [if_pos (by decide), ih0]
        exact zpe (by omega)
      | true =>
        rw [if_pos ⟨d1, d2⟩] at ih1
        rw [if_neg (by decide), ih1]
        exact zpe (by omega)
/-- together, both sides -/
theorem a_together {vC vM : zHp} (hI : zInv vC vM) (x1 x2 : Int) : ∃ vC' vM' r, fX11_together vC x1 x2 = some (vC', r) ∧ fX12_together vM x1 x2 = some (vM', r) ∧ zInv vC' vM' := by
  obtain ⟨ru, cs, hs, R, hR, hC, hM, hT, hok, hV⟩ := hI
  have hM1 := hM.mv (zMP.thr (v := vM) 0)
  unfold fX11_together fX12_together
  rw [zb_e, c_isWorker, zcl_e, c_isWorker, zcl_e, m_isWorker, zcl_e, m_isWorker, zcl_e]
  have fin0 : ∃ a b r, some (vC, (-1 : Int)) = some (a, r) ∧ some (zst vM 137 0 0, (-1 : Int)) = some (b, r) ∧ zInv a b := ⟨_, _, _, rfl, rfl, zInv_rd hR hM hT hok hV hC rfl rfl (zMP.thr 0)⟩
  by_cases c1 : 0 ≤ x1 ∧ x1 ≤ 3
  · by_cases c2 : 0 ≤ x2 ∧ x2 ≤ 3
    · rw [if_pos c1, if_pos c2, if_neg n10, if_neg n10, if_neg n10, if_neg n10]
      by_cases c3 : x1 = x2
      · rw [if_neg (fun h => h c3), if_neg (fun h => h c3)]
        exact fin0
      · rw [if_pos c3, if_pos c3]
        obtain ⟨w, rfl⟩ : ∃ w : Nat, x1 = (w : Int) := ⟨x1.toNat, by omega⟩
        obtain ⟨y, rfl⟩ : ∃ w : Nat, x2 = (w : Int) := ⟨x2.toNat, by omega⟩
        obtain ⟨u, g1, g2, g3, g4⟩ := c_sheetOfF hR hC (w := w) (by omega) (hok w (by omega))
        obtain ⟨vC', k1, k2, k3, k4⟩ := c_sheetOfF hR g2 (w := y) (by omega) (hok y (by omega))
        have g3' : zShF R vC' (29 + (4 + 18 * w)) 255 (cs w) := g3.of fun a a1 a2 => k4 a (by omega) (by omega)
        have hz := @zQA_b R 28
        have hz0 := zQA_mono (R := R) (show 0 ≤ 28 by decide)
        rw [zQA_0 hR.1] at hz0
        obtain ⟨N, hN⟩ : ∃ N : Nat, zQA R 28 = (N : Int) := ⟨(zQA R 28).toNat, by omega⟩
        have e := tog_L (R := R) (v := vC') (a := 29 + (4 + 18 * w) + 5) (b := 29 + (4 + 18 * y) + 5) (p1 := zPcs R (cs w)) (p2 := zPcs R (cs y)) (N := N) (by omega) (fun q a b => sh_wd hR (hok w (by omega)) g3' ⟨a, by omega⟩) (fun q a b => sh_wd hR (hok y (by omega)) k3 ⟨a, by omega⟩) N zFU 0 0 (Nat.zero_add _) (zFU_lt (by omega)) (Int.le_refl _) (Int.le_refl _)
        rw [show ((0 : Nat) : Int) = 0 from rfl, show yS (yHt (zPcs R (cs w)) (zPcs R (cs y))) 0 = 0 from rfl, Int.sub_zero, Int.zero_add] at e
        obtain ⟨a1, a2, a3, a4, a5, a6⟩ := id k2
        obtain ⟨m1, p1, p2, p3, p4, p5⟩ := m_laysWorked (w := w) (v := zst vM 137 0 0) (by omega) (by rw [hM1.1]; exact hR) (by rw [hM1.1]; exact hok w (by omega)) (hM1.2.2 w (by omega))
        rw [hM1.1] at p3
        have mp1 : zMP vM m1 := (zMP.thr 0).tr (zMP.mk' (fun a ha => p4 a (by omega) (by omega) (by omega) (by omega) (by omega)) (fun j hj => p5 j (by omega)))
        obtain ⟨m2, o1, o2, o3⟩ := mcp_L (ps := zPcs R (cs w)) (x2 := (y : Int)) 2720 zFU 0 m1 rfl (zFU_lt (by decide)) p3 (fun x a b => absurd b (by omega))
        have mp2 : zMP vM m2 := mp1.tr (zMP.mk' (fun a ha => o3 a (by omega)) (fun j hj => by rw [o3 137 (by decide)]))
        have hM2 := hM.mv mp2
        obtain ⟨m3, i1, i2, i3, i4, i5⟩ := m_laysWorked (w := y) (v := m2) (by omega) (by rw [hM2.1]; exact hR) (by rw [hM2.1]; exact hok y (by omega)) (hM2.2.2 y (by omega))
        rw [hM2.1] at i3
        have mp3 : zMP vM m3 := mp2.tr (zMP.mk' (fun a ha => i4 a (by omega) (by omega) (by omega) (by omega) (by omega)) (fun j hj => i5 j (by omega)))
        have f := mtog_L (v := m3) (p1 := zPcs R (cs w)) (p2 := zPcs R (cs y)) (by rw [i4 160 (by decide) (by decide) (by decide) (by decide) (by decide)]; exact o2) i3 2720 zFU 0 0 rfl (zFU_lt (by decide)) (Int.le_refl _) (Int.le_refl _)
        rw [show ((0 : Nat) : Int) = 0 from rfl, show yS (yHt (zPcs R (cs w)) (zPcs R (cs y))) 0 = 0 from rfl, Int.sub_zero, Int.zero_add] at f
        rw [show ((0 : Nat) : Int) = 0 from rfl] at o1
        rw [g1, zcl_e, zb_e, Int.toNat_natCast, k1, zcl_e, zb_e, Int.toNat_natCast, c_ru a1, c_quartersAhead a3.2.1 hR.1 (by decide), zcl_e, hN, e, zl_e, p1, zcl_e, o1, zl_e, i1, zcl_e, f, zl_e]
        refine ⟨_, _, _, rfl, ?_, zInv_rd hR hM hT hok hV k2 (by rw [k4 1 (by omega) (by omega), g4 1 (by omega) (by omega)]) (by rw [k4 2 (by omega) (by omega), g4 2 (by omega) (by omega)]) mp3⟩
        refine zpe ?_
        have := yS_part (h := yHt (zPcs R (cs w)) (zPcs R (cs y))) (g := yHt (zPcs R (cs w)) (zPcs R (cs y))) (a := 0) (b := N) 2720 (by omega) (Nat.zero_le _) (fun i hi => by
          by_cases c : i < N
          · rw [if_pos ⟨Nat.zero_le _, c⟩]
          · rw [if_neg (fun h => c h.2)]
            refine if_neg fun h => ?_
            have := zWd_b (zPcs_ok hR (hok w (by omega))).1 h.1
            omega)
        rw [this]
        show _ - 0 = _
        rw [Int.sub_zero]
    · rw [if_pos c1, if_neg c2, if_neg n10, if_neg n10, if_pos z00, if_pos z00]
      exact fin0
  · rw [if_neg c1, if_pos z00, if_pos z00]
    exact fin0
