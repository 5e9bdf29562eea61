/-! PURE: the sheet renewed. My own text. -/
def zPE (v : zHp) (a0 P E : Nat) : Prop := v a0 9 = (P : Int) ∧ v a0 10 = (E : Int) ∧ ((P = a0 + 8 ∧ E = a0 + 11) ∨ (P = a0 + 11 ∧ E = a0 + 8))
/-- a sheet: the weeks that are known are as its pieces and the rules have them -/
def zShI (R : Int → Int) (v : zHp) (a0 : Nat) : Prop := ∃ (P E m al : Nat) (ps : List zP2), zPE v a0 P E ∧ zCdC v P ps ∧ zPs1 ps ∧ v a0 12 = (m : Int) ∧ m < 16 ∧ v a0 13 = (al : Int) ∧ ∀ w : Nat, w < 4 → m.testBit w = true → zSW R al (zD R ps (w : Int)) (w : Int) v a0
/-- a sheet that is as a card and the rules have it -/
def zShF (R : Int → Int) (v : zHp) (a0 al : Nat) (cd : List zP2) : Prop := ∃ P E : Nat, zPE v a0 P E ∧ zCdC v P (zPcs R cd) ∧ v a0 12 = 15 ∧ v a0 13 = (al : Int) ∧ (∀ w : Nat, w < 4 → zSW R al (zD R (zPcs R cd) (w : Int)) (w : Int) v a0) ∧ zSpC R v a0 (zSpa R cd) ∧ ∀ j : Nat, j < cd.length → v (a0 + 1) (j : Int) = zRo R cd cd.length j
theorem zPok_1 {R : Int → Int} {ps : List zP2} (h : zPok R ps) : zPs1 ps := by
  have hq := @zQA_b R 28
  refine ⟨⟨fun i hi => ?_, h.1.2⟩, h.2⟩
  have := h.1.1 i hi
  omega
theorem zShF.toI {R : Int → Int} (hR : zWR R) {v : zHp} {a0 al : Nat} {cd : List zP2} (hok : zCdOk R cd) (h : zShF R v a0 al cd) : zShI R v a0 := by
  obtain ⟨P, E, h1, h2, h3, h4, h5, _, _⟩ := h
  exact ⟨P, E, 15, al, zPcs R cd, h1, h2, zPok_1 (zPcs_ok hR hok).1, h3, by decide, h4, fun w hw _ => h5 w hw⟩
/-- a week of a sheet hangs on four rows, and of these on its own part -/
theorem zSW.of {R : Int → Int} {al : Nat} {D : Int → Bool} {wk : Int} {v v' : zHp} {a0 : Nat} (h : zSW R al D wk v a0) (h1 : ∀ q : Int, zQA R (7 * wk) ≤ q → q < zQA R (7 * wk + 7) → v' (a0 + 5) q = v (a0 + 5) q ∧ v' (a0 + 6) q = v (a0 + 6) q ∧ v' (a0 + 7) q = v (a0 + 7) q) (h2 : v' (a0 + 14) wk = v (a0 + 14) wk) : zSW R al D wk v' a0 := by
  refine ⟨fun q a b => ?_, by rw [h2]; exact h.2⟩
  obtain ⟨e1, e2, e3⟩ := h1 q a b
  rw [e1, e2, e3]
  exact h.1 q a b
theorem zWeek_apart {R : Int → Int} {w wk : Nat} (h : w ≠ wk) {q : Int} (h1 : zQA R (7 * (w : Int)) ≤ q) (h2 : q < zQA R (7 * (w : Int) + 7)) : ¬ (zQA R (7 * (wk : Int)) ≤ q ∧ q < zQA R (7 * (wk : Int) + 7)) := by
  rintro ⟨h3, h4⟩
  by_cases c : w < wk
  · have := zQA_mono (R := R) (show 7 * (w : Int) + 7 ≤ 7 * (wk : Int) by omega)
    omega
  · have := zQA_mono (R := R) (show 7 * (wk : Int) + 7 ≤ 7 * (w : Int) by omega)
    omega
theorem m16 : ∀ m : Nat, m < 16 → m.testBit 0 = true → m.testBit 1 = true → m.testBit 2 = true → m.testBit 3 = true → m = 15 := by decide
theorem renew_L {R : Int → Int} {ru a0 c P E al : Nat} {ps pt : List zP2} (hR : zWR R) (hal : al < 2 ^ 31) (hps : zPok R ps) (hpt : zPs1 pt) (hs : zSC a0 c) : ∀ (d fu wk m : Nat) (v : zHp), wk + d = 4 → d < fu → zRC ru v R → zPE v a0 P E → zCdC v P ps → zCdC v E pt → v a0 12 = (m : Int) → m < 16 → (∀ w : Nat, w < wk → m.testBit w = true ∧ zSW R al (zD R ps (w : Int)) (w : Int) v a0) → (∀ w : Nat, wk ≤ w → w < 4 → m.testBit w = true → zSW R al (zD R pt (w : Int)) (w : Int) v a0) → ∃ v', fX8_renew_L55 fu v a0 ru (al : Int) (wk : Int) = some (v', 0) ∧ v' a0 12 = 15 ∧ (∀ w : Nat, w < 4 → zSW R al (zD R ps (w : Int)) (w : Int) v' a0) ∧ (∀ j, j ≠ 12 → v' a0 j = v a0 j) ∧ ∀ a, a ≠ a0 → a ≠ a0 + 5 → a ≠ a0 + 6 → a ≠ a0 + 7 → a ≠ a0 + 14 → (a < 125 ∨ 136 < a) → v' a = v a
  | 0, fu, wk, m, v, h1, h2, h3, h4, h5, h6, h7, h8, h9, h10 => by
    obtain ⟨k, rfl⟩ : ∃ k, fu = k + 1 := ⟨fu - 1, by omega⟩
    have e : m = 15 := m16 m h8 (h9 0 (by omega)).1 (h9 1 (by omega)).1 (h9 2 (by omega)).1 (h9 3 (by omega)).1
    refine ⟨v, ?_, by rw [h7, e]; rfl, fun w hw => (h9 w (by omega)).2, fun j _ => rfl, fun a _ _ _ _ _ _ => rfl⟩
    rw [fX8_renew_L55.eq_2, if_pos (by omega)]
  | d + 1, fu, wk, m, v, h1, h2, h3, h4, h5, h6, h7, h8, h9, h10 => by
    obtain ⟨k, rfl⟩ : ∃ k, fu = k + 1 := ⟨fu - 1, by omega⟩
    obtain ⟨s1, s2, s3, s4, s5, s6, s7⟩ := id hs
    obtain ⟨p1, p2, p3⟩ := id h4
    have hr0 := h3.1
    have hwk : wk < 4 := by omega
    have hKP : 0 ≤ (P : Int) ∧ zK P = (4, 3) := ⟨by omega, by rcases p3 with ⟨h, _⟩ | ⟨h, _⟩ <;> rw [h]; exact s6; exact s7⟩
    have hKE : 0 ≤ (E : Int) ∧ zK E = (4, 3) := ⟨by omega, by rcases p3 with ⟨_, h⟩ | ⟨_, h⟩ <;> rw [h]; exact s7; exact s6⟩
    have z0 := zQA_mono (R := R) (show 0 ≤ 7 * (wk : Int) by omega)
    rw [zQA_0 hR.1] at z0
    have z1 := zQA_mono (R := R) (show 7 * (wk : Int) ≤ 7 * (wk : Int) + 7 by omega)
    have z2 := zQA_mono (R := R) (show 7 * (wk : Int) + 7 ≤ 28 by omega)
    have z3 := @zQA_b R 28
    have e7 : (wk : Int) * 7 = 7 * (wk : Int) := by omega
    -- paid anew
    have anew : ∃ v', fX8_renew_J122 (fX8_renew_L55 k) v a0 ru (al : Int) (wk : Int) (zQA R (7 * (wk : Int))) (zQA R (7 * (wk : Int) + 7)) = some (v', 0) ∧ v' a0 12 = 15 ∧ (∀ w : Nat, w < 4 → zSW R al (zD R ps (w : Int)) (w : Int) v' a0) ∧ (∀ j, j ≠ 12 → v' a0 j = v a0 j) ∧ ∀ a, a ≠ a0 → a ≠ a0 + 5 → a ≠ a0 + 6 → a ≠ a0 + 7 → a ≠ a0 + 14 → (a < 125 ∨ 136 < a) → v' a = v a := by
      obtain ⟨u, g1, g2, g3, g4⟩ := c_clear (a0 := a0) (fr := zQA R (7 * (wk : Int))) (to := zQA R (7 * (wk : Int) + 7)) (by omega) v
      have g4' : ∀ a, a ≠ a0 + 5 → a ≠ a0 + 6 → u a = v a := g4
      obtain ⟨x, q1, q2, q3, q4, q5, q6, q7⟩ := c_payWeek (c := c) (P := P) (m := m) (ps := ps) hR hal hps hs (by rw [g4' a0 (by omega) (by omega)]; exact p1) (by omega) hwk (h3.of hR fun a a1 a2 => g4' a (by omega) (by omega)) (by
        unfold zCdC
        rw [g4' P (by omega) (by omega), g4' (P + 1) (by omega) (by omega), g4' (P + 2) (by omega) (by omega)]
        exact h5) (by rw [g4' a0 (by omega) (by omega)]; exact h7) h8 (fun q b1 b2 => by
        rw [g2, g3, if_pos ⟨b1, b2⟩, if_pos ⟨b1, b2⟩]
        exact ⟨rfl, rfl⟩)
      have hm2 : m ||| 2 ^ wk < 16 := Nat.or_lt_two_pow (n := 4) h8 (Nat.pow_lt_pow_right (by decide) hwk)
      have xa : ∀ a, a ≠ a0 → a ≠ a0 + 5 → a ≠ a0 + 6 → a ≠ a0 + 7 → a ≠ a0 + 14 → (a < 125 ∨ 136 < a) → x a = v a := fun a a1 a2 a3 a4 a5 a6 => by rw [q7 a a1 a2 a3 a4 a5 a6, g4' a a2 a3]
      have xj : ∀ j, j ≠ 12 → x a0 j = v a0 j := fun j hj => by rw [q4 j hj, g4' a0 (by omega) (by omega)]
      have keep : ∀ (D : Int → Bool) (w : Nat), w ≠ wk → zSW R al D (w : Int) v a0 → zSW R al D (w : Int) x a0 := fun D w hw hS => hS.of (fun q b1 b2 => by
        have hap := zWeek_apart (R := R) hw b1 b2
        obtain ⟨y1, y2, y3⟩ := q6 q hap
        rw [y1, y2, y3, g2, g3, if_neg hap, if_neg hap, g4' (a0 + 7) (by omega) (by omega)]
        exact ⟨rfl, rfl, rfl⟩) (by rw [q5 _ (by omega), g4' (a0 + 14) (by omega) (by omega)])
      obtain ⟨v', y1, y2, y3, y4, y5⟩ := renew_L (ru := ru) (P := P) (E := E) hR hal hps hpt hs d k (wk + 1) (m ||| 2 ^ wk) x (by omega) (by omega) (h3.of hR fun a a1 a2 => xa a (by omega) (by omega) (by omega) (by omega) (by omega) (by omega)) ⟨by rw [xj 9 (by decide)]; exact p1, by rw [xj 10 (by decide)]; exact p2, p3⟩ (by
        unfold zCdC
        rw [xa P (by omega) (by omega) (by omega) (by omega) (by omega) (by omega), xa (P + 1) (by omega) (by omega) (by omega) (by omega) (by omega) (by omega), xa (P + 2) (by omega) (by omega) (by omega) (by omega) (by omega) (by omega)]
        exact h5) (by
        unfold zCdC
        rw [xa E (by omega) (by omega) (by omega) (by omega) (by omega) (by omega), xa (E + 1) (by omega) (by omega) (by omega) (by omega) (by omega) (by omega), xa (E + 2) (by omega) (by omega) (by omega) (by omega) (by omega) (by omega)]
        exact h6) q3 hm2 (fun w hw => by
        by_cases e : w = wk
        · rw [e, Nat.testBit_or, Nat.testBit_two_pow_self, Bool.or_true]
          exact ⟨rfl, q2⟩
        · obtain ⟨b1, b2⟩ := h9 w (by omega)
          rw [Nat.testBit_or, b1, Bool.true_or]
          exact ⟨rfl, keep _ w e b2⟩) (fun w w1 w2 w3 => by
        rw [Nat.testBit_or, Nat.testBit_two_pow_of_ne (by omega), Bool.or_false] at w3
        exact keep _ w (by omega) (h10 w (by omega) w2 w3))
      refine ⟨v', ?_, y2, y3, fun j hj => by rw [y4 j hj, xj j hj], fun a a1 a2 a3 a4 a5 a6 => by rw [y5 a a1 a2 a3 a4 a5 a6, xa a a1 a2 a3 a4 a5 a6]⟩
      unfold fX8_renew_J122
      rw [g1, zcl_e, q1, zcl_e, zn_pos (by omega), show (wk : Int) + 1 = ((wk + 1 : Nat) : Int) by omega]
      exact y1
    rw [fX8_renew_L55.eq_2, if_neg (by omega), zn_pos (by omega), e7, c_quartersAhead h3.2.1 hR.1 (by omega), zcl_e, zn_pos (by omega), c_quartersAhead h3.2.1 hR.1 (by omega), zcl_e, h7, zbit_n (by omega) (by omega)]
    cases hbit : m.testBit wk with
    | false =>
      rw [if_pos (by decide)]
      exact anew
    | true =>
      obtain ⟨r, t1, t2⟩ := c_sameWithin h5 h6 (zPok_1 hps) hpt (zQA R (7 * (wk : Int))) (zQA R (7 * (wk : Int) + 7))
      rw [if_neg (by decide), p1, Int.toNat_natCast, zb_e, zck_pos hKP, p2, Int.toNat_natCast, zb_e, zck_pos hKE, t1, zcl_e]
      by_cases hr : r = 0
      · rw [if_neg (by omega)]
        exact anew
      · rw [if_pos hr, zn_pos (by omega), show (wk : Int) + 1 = ((wk + 1 : Nat) : Int) by omega]
        have hagree := t2 hr
        have eD : zD R ps (wk : Int) = zD R pt (wk : Int) := by
          funext q
          unfold zD
          by_cases b : zQA R (7 * (wk : Int)) ≤ q ∧ q < zQA R (7 * (wk : Int) + 7)
          · rw [hagree q b.1 b.2]
          · have : (decide (zQA R (7 * (wk : Int)) ≤ q) && decide (q < zQA R (7 * (wk : Int) + 7))) = false := by
              rw [Bool.and_eq_false_iff, decide_eq_false_iff_not, decide_eq_false_iff_not]
              omega
            rw [this, Bool.and_false, Bool.and_false]
        exact renew_L hR hal hps hpt hs d k (wk + 1) m v (by omega) (by omega) h3 h4 h5 h6 h7 h8 (fun w hw => by
          by_cases e : w = wk
          · rw [e, hbit, eD]
            exact ⟨rfl, h10 wk (Nat.le_refl _) hwk hbit⟩
          · exact h9 w (by omega)) (fun w w1 w2 w3 => h10 w (by omega) w2 w3)
theorem c_renew {R : Int → Int} {ru a0 c al : Nat} {cd : List zP2} {v : zHp} (hR : zWR R) (hal : al < 2 ^ 31) (hs : zSC a0 c) (hok : zCdOk R cd) (h3 : zRC ru v R) (h5 : zCdC v c cd) (hI : zShI R v a0) : ∃ v', fX8_renew v a0 c ru (al : Int) = some (v', 0) ∧ zShF R v' a0 al cd ∧ v' a0 0 = 0 ∧ ∀ a, (a < a0 ∨ a0 + 14 < a) → (a < 125 ∨ 136 < a) → v' a = v a := by
  obtain ⟨P, E, m, al0, ps, ⟨p1, p2, p3⟩, i2, i3, i4, i5, i6, i7⟩ := hI
  obtain ⟨s1, s2, s3, s4, s5, s6, s7⟩ := id hs
  have hr0 := h3.1
  have hKP : 0 ≤ (P : Int) ∧ zK P = (4, 3) := ⟨by omega, by rcases p3 with ⟨h, _⟩ | ⟨h, _⟩ <;> rw [h]; exact s6; exact s7⟩
  have hKE : 0 ≤ (E : Int) ∧ zK E = (4, 3) := ⟨by omega, by rcases p3 with ⟨_, h⟩ | ⟨_, h⟩ <;> rw [h]; exact s7; exact s6⟩
  -- behind the question whether the premiums are the same
  have main : ∀ (x : zHp) (mm : Nat), (∀ a, a ≠ a0 → x a = v a) → (∀ j, j ≠ 12 → j ≠ 13 → x a0 j = v a0 j) → x a0 12 = (mm : Int) → mm < 16 → x a0 13 = (al : Int) → (∀ w : Nat, w < 4 → mm.testBit w = true → zSW R al (zD R ps (w : Int)) (w : Int) v a0) → ∃ v', fX8_renew_J18 x a0 c ru (al : Int) = some (v', 0) ∧ zShF R v' a0 al cd ∧ v' a0 0 = 0 ∧ ∀ a, (a < a0 ∨ a0 + 14 < a) → (a < 125 ∨ 136 < a) → v' a = v a := fun x mm x1 x2 x3 x4 x5 x6 => by
    have n9 : ∀ a, a ≠ a0 → a ≠ E → zst (zst (zst x a0 10 (P : Int)) a0 9 (E : Int)) E 2 0 a = v a := fun a a1 a2 => by
      funext j
      rw [zst_na a2, zst_na a1, zst_na a1, x1 a a1]
    have n9j : ∀ j, zst (zst (zst x a0 10 (P : Int)) a0 9 (E : Int)) E 2 0 a0 j = if j = 9 then (E : Int) else if j = 10 then (P : Int) else x a0 j := fun j => by rw [zst_na (by omega), zst_if, zst_if]
    have n9E : ∀ j, j ≠ 2 → zst (zst (zst x a0 10 (P : Int)) a0 9 (E : Int)) E 2 0 E j = v E j := fun j hj => by rw [zst_nj hj, zst_na (by omega), zst_na (by omega), x1 E (by omega)]
    obtain ⟨y, g1, g2, g3, g4, g5, g6⟩ := c_pairUp (c := c) (P := E) (cd := cd) (R := R) (ru := ru) (v := zst (zst (zst x a0 10 (P : Int)) a0 9 (E : Int)) E 2 0) hs (by omega) hR hok (h3.of hR fun a a1 a2 => n9 a (by omega) (by omega)) (by rw [n9j, if_pos rfl]) (by
      unfold zCdC
      rw [n9 c (by omega) (by omega), n9 (c + 1) (by omega) (by omega), n9 (c + 2) (by omega) (by omega)]
      exact h5) zst_eq
    have ya : ∀ a, a ≠ a0 → a ≠ a0 + 1 → a ≠ a0 + 2 → a ≠ a0 + 3 → a ≠ a0 + 4 → a ≠ E → a ≠ E + 1 → a ≠ E + 2 → y a = v a := fun a a1 a2 a3 a4 a5 a6 a7 a8 => by rw [g5 a a1 a2 a3 a4 a5 a6 a7 a8, n9 a a1 a6]
    have yj : ∀ j, j ≠ 5 → y a0 j = if j = 9 then (E : Int) else if j = 10 then (P : Int) else x a0 j := fun j hj => by rw [g6 j hj, n9j]
    obtain ⟨z, q1, q2, q3, q4, q5⟩ := renew_L (R := R) (ru := ru) (a0 := a0) (c := c) (P := E) (E := P) (al := al) (ps := zPcs R cd) (pt := ps) hR hal (zPcs_ok hR hok).1 i3 hs 4 zFU 0 mm y rfl (zFU_lt (by decide)) (h3.of hR fun a a1 a2 => ya a (by omega) (by omega) (by omega) (by omega) (by omega) (by omega) (by omega) (by omega)) ⟨by rw [yj 9 (by decide), if_pos rfl], by rw [yj 10 (by decide), if_neg (by decide), if_pos rfl], by omega⟩ g3 (by
      unfold zCdC
      rw [ya P (by omega) (by omega) (by omega) (by omega) (by omega) (by omega) (by omega) (by omega), ya (P + 1) (by omega) (by omega) (by omega) (by omega) (by omega) (by omega) (by omega) (by omega), ya (P + 2) (by omega) (by omega) (by omega) (by omega) (by omega) (by omega) (by omega) (by omega)]
      exact i2) (by rw [yj 12 (by decide), if_neg (by decide), if_neg (by decide)]; exact x3) x4 (fun w hw => absurd hw (Nat.not_lt_zero _)) (fun w _ w2 w3 => (x6 w w2 w3).of (fun q _ _ => by
        rw [ya (a0 + 5) (by omega) (by omega) (by omega) (by omega) (by omega) (by omega) (by omega) (by omega), ya (a0 + 6) (by omega) (by omega) (by omega) (by omega) (by omega) (by omega) (by omega) (by omega), ya (a0 + 7) (by omega) (by omega) (by omega) (by omega) (by omega) (by omega) (by omega) (by omega)]
        exact ⟨rfl, rfl, rfl⟩) (by rw [ya (a0 + 14) (by omega) (by omega) (by omega) (by omega) (by omega) (by omega) (by omega) (by omega)]))
    have n0 : ∀ a, a ≠ a0 → zst z a0 0 0 a = z a := fun a ha => by funext j; exact zst_na ha
    have zj : ∀ j, j ≠ 0 → j ≠ 12 → j ≠ 5 → zst z a0 0 0 a0 j = if j = 9 then (E : Int) else if j = 10 then (P : Int) else x a0 j := fun j j1 j2 j3 => by rw [zst_nj j1, q4 j j2, yj j j3]
    refine ⟨zst z a0 0 0, ?_, ⟨E, P, ⟨by rw [zj 9 (by decide) (by decide) (by decide), if_pos rfl], by rw [zj 10 (by decide) (by decide) (by decide), if_neg (by decide), if_pos rfl], by omega⟩, ?_, by rw [zst_nj (by decide)]; exact q2, by rw [zj 13 (by decide) (by decide) (by decide), if_neg (by decide), if_neg (by decide)]; exact x5, fun w hw => ?_, ?_, fun j hj => ?_⟩, zst_eq, fun a a1 a2 => ?_⟩
    · rw [show ((0 : Nat) : Int) = 0 from rfl] at q1
      unfold fX8_renew_J18
      rw [x2 10 (by decide) (by decide), p2, Int.toNat_natCast, zb_e, zck_pos hKE, x2 9 (by decide) (by decide), p1, Int.toNat_natCast, zb_e, zck_pos hKP, zb_e, zb_e, zst_eq, Int.toNat_natCast, zb_e, zck_pos hKE, zb_e, g1, zcl_e, q1]
      rfl
    · unfold zCdC
      rw [n0 E (by omega), n0 (E + 1) (by omega), n0 (E + 2) (by omega), q5 E (by omega) (by omega) (by omega) (by omega) (by omega) (by omega), q5 (E + 1) (by omega) (by omega) (by omega) (by omega) (by omega) (by omega), q5 (E + 2) (by omega) (by omega) (by omega) (by omega) (by omega) (by omega)]
      exact g3
    · exact (q3 w hw).of (fun q _ _ => by
        rw [n0 (a0 + 5) (by omega), n0 (a0 + 6) (by omega), n0 (a0 + 7) (by omega)]
        exact ⟨rfl, rfl, rfl⟩) (by rw [n0 (a0 + 14) (by omega)])
    · unfold zSpC
      rw [zst_nj (by decide), q4 5 (by decide), n0 (a0 + 2) (by omega), n0 (a0 + 3) (by omega), n0 (a0 + 4) (by omega), q5 (a0 + 2) (by omega) (by omega) (by omega) (by omega) (by omega) (by omega), q5 (a0 + 3) (by omega) (by omega) (by omega) (by omega) (by omega) (by omega), q5 (a0 + 4) (by omega) (by omega) (by omega) (by omega) (by omega) (by omega)]
      exact g2
    · rw [n0 (a0 + 1) (by omega), q5 (a0 + 1) (by omega) (by omega) (by omega) (by omega) (by omega) (by omega)]
      exact g4 j hj
    · rw [n0 a (by omega), q5 a (by omega) (by omega) (by omega) (by omega) (by omega) a2, ya a (by omega) (by omega) (by omega) (by omega) (by omega) (by omega) (by omega) (by omega)]
  unfold fX8_renew
  by_cases c0 : (al : Int) = v a0 13
  · rw [if_pos c0]
    have e : al0 = al := by omega
    rw [e] at i7
    exact main v m (fun a _ => rfl) (fun j _ _ => rfl) i4 i5 c0.symm i7
  · rw [if_neg c0, zb_e, zb_e]
    exact main _ 0 (fun a ha => by funext j; rw [zst_na ha, zst_na ha]) (fun j j1 j2 => by rw [zst_nj j2, zst_nj j1]) (by rw [zst_nj (by decide), zst_eq]; rfl) (by decide) zst_eq (fun w _ h => by
      rw [Nat.zero_testBit] at h
      exact absurd h (by decide))
