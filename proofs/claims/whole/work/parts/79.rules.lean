/-! PURE: rules: both sides. My own text. -/
theorem rd_both {vC vM : zHp} {N ru : Nat} (hru : ru = 4 ∨ ru = 16) (hN : N ≤ 400) (hs : (N : Int) ≤ vC 1 1) (hb : ∀ j : Nat, j < N → vC 2 (j : Int) = zand (vM 138 (j : Int)) 255) : ∃ v9 v12 vC' vM' r F, fX12_clearsDraft (zst (zst (zst (zst vM 137 3 (N : Int)) 137 2 0) 137 5 0) 137 8 0) = some (v9, 0) ∧ fX12_go v9 = some (v12, 0) ∧ fX12_rules_L49 20 v12 1 = some (vM', r) ∧ fX6_read vC (N : Int) ru = some (vC', F) ∧ ((r = 1 ∧ F = -1 ∧ zDr ru vC' vM') ∨ (r = 0 ∧ vM' 137 8 = F ∧ 1 ≤ F ∧ F ≤ 3203)) ∧ (∀ a, a ≠ 1 → a ≠ 3 → (a < ru ∨ ru + 11 < a) → vC' a = vC a) ∧ (∀ a, a ≠ 137 → a ≠ 140 → vM' a = vM a) ∧ vM' 137 2 = 0 ∧ vM' 137 16 = vM 137 16 := by
  have hB : xBy (fun j => vC 2 (j : Int)) N := ⟨hN, fun j hj => by
    have := zand255 (vM 138 (j : Int))
    show 0 ≤ vC 2 (j : Int) ∧ vC 2 (j : Int) ≤ 255
    rw [hb j hj]
    exact this⟩
  -- the reference's start
  have n8 : ∀ a, a ≠ 137 → zst (zst (zst (zst vM 137 3 (N : Int)) 137 2 0) 137 5 0) 137 8 0 a = vM a := fun a ha => by funext j; rw [zst_na ha, zst_na ha, zst_na ha, zst_na ha]
  obtain ⟨v9, m1, m2, m3, m4, m5⟩ := m_clears (zst (zst (zst (zst vM 137 3 (N : Int)) 137 2 0) 137 5 0) 137 8 0)
  have k3 : v9 137 3 = (N : Int) := by rw [m4 3 (by decide), zst_nj (by decide), zst_nj (by decide), zst_nj (by decide), zst_eq]
  have k2 : v9 137 2 = 0 := by rw [m4 2 (by decide), zst_nj (by decide), zst_nj (by decide), zst_eq]
  have k5 : v9 137 5 = ((0 : Nat) : Int) := by rw [m4 5 (by decide), zst_nj (by decide), zst_eq]; rfl
  have k8 : v9 137 8 = 0 := by rw [m4 8 (by decide), zst_eq]
  have k16 : v9 137 16 = vM 137 16 := by rw [m4 16 (by decide), zst_nj (by decide), zst_nj (by decide), zst_nj (by decide), zst_nj (by decide)]
  have k138 : v9 138 = vM 138 := by rw [m5 138 (by decide) (by decide), n8 138 (by decide)]
  have kB : ∀ j : Nat, j < N → zand (v9 138 (j : Int)) 255 = vC 2 (j : Int) := fun j hj => by rw [k138, hb j hj]
  obtain ⟨v12, g1, g2, g3, g4, g5, g6, g7⟩ := m_go (B := fun j => vC 2 (j : Int)) (e := 0) hN k3 k5 (Nat.zero_le _) kB (fun j hj => (hB.2 j hj).1)
  -- the class's start
  have nA : ∀ a, a ≠ 3 → zst (zst vC 3 0 (-1)) 3 1 0 a = vC a := fun a ha => by funext j; rw [zst_na ha, zst_na ha]
  obtain ⟨c3, d1, d2, d3, d4⟩ := c_clearR (zst (zst vC 3 0 (-1)) 3 1 0) hru
  have e1 : c3 1 = vC 1 := by rw [d4 1 (by omega) (by omega), nA 1 (by decide)]
  have e2 : c3 2 = vC 2 := by rw [d4 2 (by omega) (by omega), nA 2 (by decide)]
  have e3 : c3 3 0 = -1 ∧ c3 3 1 = 0 := by
    rw [d4 3 (by omega) (by omega)]
    exact ⟨by rw [zst_nj (by decide), zst_eq], zst_eq⟩
  have nO : ∀ a, a ≠ 1 → zst (zst c3 1 2 (N : Int)) 1 5 0 a = c3 a := fun a ha => by funext j; rw [zst_na ha, zst_na ha]
  obtain ⟨c6, f1, f2, f3, f4, f5, f6⟩ := c_adv (B := fun j => vC 2 (j : Int)) (N := N) (e := 0) hN (v := zst (zst c3 1 2 (N : Int)) 1 5 0) (by rw [zst_nj (by decide), zst_eq]) zst_eq (Nat.zero_le _) (fun j hj => by rw [nO 2 (by decide), e2])
  obtain ⟨t1, t2⟩ := xTo_at (B := fun j => vC 2 (j : Int)) (N := N) (e := 0) (Nat.zero_le _)
  have hG : xGd (fun j => vC 2 (j : Int)) N ru 0 c6 v12 c6 v12 (xSt (fun j => vC 2 (j : Int)) N 0) (xEn (fun j => vC 2 (j : Int)) N (xSt (fun j => vC 2 (j : Int)) N 0)) (xSr (fun j => vC 2 (j : Int)) N (xSt (fun j => vC 2 (j : Int)) N 0)) := by
    refine ⟨⟨?_, f2, f3, f4, fun j hj => ?_⟩, ⟨?_, g2, g3, g4, g5, fun j hj => ?_⟩, t2, ⟨?_, ?_⟩, ⟨?_, ?_, by decide⟩, ⟨fun j _ _ _ => rfl, fun a _ _ _ => rfl⟩, ⟨fun j _ => rfl, fun a _ _ => rfl⟩, hB, hru⟩
    · rw [f5 2 (by decide) (by decide) (by decide), zst_nj (by decide), zst_eq]
    · rw [f6 2 (by decide), nO 2 (by decide), e2]
    · rw [g6 3 (by decide) (by decide) (by decide) (by decide)]; exact k3
    · rw [g7 138 (by decide)]; exact kB j hj
    · rw [f6 3 (by decide), nO 3 (by decide)]; exact e3.1
    · rw [g6 8 (by decide) (by decide) (by decide) (by decide)]; exact k8
    · rw [f6 3 (by decide), nO 3 (by decide)]; exact e3.2
    · rw [g6 12 (by decide) (by decide) (by decide) (by decide)]; exact m3
  have hxe : zE51 xDf (v12 140) := fun k k0 k1 => by rw [g7 140 (by decide)]; exact m2 k k0 k1
  have hcl : ∀ a, 4 ≤ a → c6 a = c3 a := fun a ha => by rw [f6 a (by omega), nO a (by omega)]
  have hD : zDr ru c6 v12 := by
    refine ⟨hxe.rc xDf_wr (xDf_rc hru ?_ ?_), hxe.wr xDf_wr⟩
    · rw [hcl (ru + 1) (by omega)]; exact d2
    · rw [hcl ru (by omega)]; exact d3
  have hu : xU 0 v12 = 0 := by
    unfold xU
    rw [hxe 9 (by decide) (by decide), hxe 10 (by decide) (by decide)]
    rfl
  have fr1 : ∀ a, a ≠ 1 → a ≠ 3 → (a < ru ∨ ru + 11 < a) → c6 a = vC a := fun a a1 a2 a3 => by rw [f6 a a1, nO a a1, d4 a (by omega) (by omega), nA a a2]
  have fr2 : ∀ a, a ≠ 137 → a ≠ 140 → v12 a = vM a := fun a a1 a2 => by rw [g7 a a1, m5 a a1 a2, n8 a a1]
  have fr3 : v12 137 2 = 0 ∧ v12 137 16 = vM 137 16 := ⟨by rw [g6 2 (by decide) (by decide) (by decide) (by decide)]; exact k2, by rw [g6 16 (by decide) (by decide) (by decide) (by decide)]; exact k16⟩
  have eR : ∀ (w : zHp), fX6_read_L22 zFU c6 (N : Int) ru 0 = some (w, 0) → fX6_read vC (N : Int) ru = some (w, w 3 0) := fun w hw => by
    unfold fX6_read
    rw [zb_e, zb_e, d1, zcl_e]
    unfold fX9_open
    rw [e1, show min (N : Int) (vC 1 1) = (N : Int) by omega, zb_e, zb_e, f1, zcl_e, zcl_e, hw, zl_e]
  rcases rd_L (c0 := c6) (m0 := v12) N zFU 20 0 c6 v12 _ _ 0 _ (by omega) (zFU_lt (by omega)) (by omega) (Nat.zero_le _) hG hD with ⟨vC', vM', s', e', t', T', q1, q2, q3, q4⟩ | ⟨F, vC', vM', q1, q2, q3, q4⟩
  · rw [show ((0 : Nat) : Int) = 0 from rfl] at q1
    refine ⟨v9, v12, vC', vM', 1, vC' 3 0, m1, g1, q2, eR _ q1, Or.inl ⟨rfl, q3.2.2.2.1.1, q4⟩, fun a a1 a2 a3 => ?_, fun a a1 a2 => ?_, ?_, ?_⟩
    · rw [q3.2.2.2.2.2.1.2 a a1 a2 a3, fr1 a a1 a2 a3]
    · rw [q3.2.2.2.2.2.2.1.2 a a1 a2, fr2 a a1 a2]
    · rw [q3.2.2.2.2.2.2.1.1 2 (by decide)]; exact fr3.1
    · rw [q3.2.2.2.2.2.2.1.1 16 (by decide)]; exact fr3.2
  · rw [show ((0 : Nat) : Int) = 0 from rfl] at q1
    refine ⟨v9, v12, vC', vM', 0, vC' 3 0, m1, g1, q2, eR _ q1, Or.inr ⟨rfl, ?_, ?_, ?_⟩, fun a a1 a2 a3 => ?_, fun a a1 a2 => ?_, ?_, ?_⟩
    · rw [q3.2.1]; exact q4.1
    · rw [q3.2.1]; exact q3.2.2.1.1
    · rw [q3.2.1]; exact q3.2.2.1.2
    · rw [q3.2.2.2.1.2 a a1 a2 a3, fr1 a a1 a2 a3]
    · rw [q4.2.2 a a1 a2, fr2 a a1 a2]
    · rw [q4.2.1 2 (by decide)]; exact fr3.1
    · rw [q4.2.1 16 (by decide)]; exact fr3.2
/-- a card that stays: the clock is the same -/
theorem zCdOk.ck {R R' : Int → Int} {cd : List zP2} (h : zCdOk R cd) (h5 : R' 5 = R 5) (h7 : R' 7 = R 7) : zCdOk R' cd := by
  refine ⟨h.1, h.2.1, fun i hi => ?_⟩
  have e : zQA R' = zQA R := by
    funext d
    unfold zQA
    rw [h5, h7]
  unfold zOk2
  rw [e]
  exact h.2.2 i hi
theorem zCdOk.nil {R : Int → Int} : zCdOk R [] := ⟨Nat.zero_le _, fun i j _ hj => absurd hj (Nat.not_lt_zero _), fun i hi => absurd hi (Nat.not_lt_zero _)⟩
theorem c_same {ru ru2 : Nat} {v : zHp} {R R' : Int → Int} (h : zRC ru v R) (h' : zRC ru2 v R') : fX2_sameAs v (ru + 1) (ru2 + 1) = some (v, if R 5 = R' 5 ∧ R 6 = R' 6 ∧ R 7 = R' 7 then 1 else 0) := by
  obtain ⟨a1, a2, a3, _, _⟩ := h.2.1
  obtain ⟨b1, b2, b3, _, _⟩ := h'.2.1
  unfold fX2_sameAs
  rw [a1, a2, a3, b1, b2, b3]
  by_cases c5 : R 5 = R' 5
  · rw [if_neg (show ¬ R 5 ≠ R' 5 from fun g => g c5)]
    by_cases c6 : R 6 = R' 6
    · rw [if_neg (show ¬ R 6 ≠ R' 6 from fun g => g c6)]
      by_cases c7 : R 7 = R' 7
      · rw [if_neg (show ¬ R 7 ≠ R' 7 from fun g => g c7), if_pos (show R 5 = R' 5 ∧ R 6 = R' 6 ∧ R 7 = R' 7 from ⟨c5, c6, c7⟩)]
      · rw [if_pos c7, if_neg (show ¬ (R 5 = R' 5 ∧ R 6 = R' 6 ∧ R 7 = R' 7) from fun g => c7 g.2.2)]
    · rw [if_pos c6, if_neg (show ¬ (R 5 = R' 5 ∧ R 6 = R' 6 ∧ R 7 = R' 7) from fun g => c6 g.2.1)]
  · rw [if_pos c5, if_neg (show ¬ (R 5 = R' 5 ∧ R 6 = R' 6 ∧ R 7 = R' 7) from fun g => c5 g.1)]
/-- the class puts the draft in force -/
theorem c_replace {R R' : Int → Int} {ru : Nat} {cs : Nat → List zP2} {hs : List zP4} {v : zHp} (hR' : zWR R') (h1 : v 0 2 = (ru : Int)) (h2 : v 0 3 = ((20 - ru : Nat) : Int)) (hru : ru = 4 ∨ ru = 16) (h3 : zRC ru v R) (h4 : zRC (20 - ru) v R') (h5 : zShI R v 110) (h6 : ∀ w : Nat, w < 4 → zCdC v (28 + (2 + 18 * w)) (cs w) ∧ zShI R v (29 + (4 + 18 * w))) : ∃ v', fX11_replaceRules v = some (v', 0) ∧ zIC R' (20 - ru) (if R 5 = R' 5 ∧ R 6 = R' 6 ∧ R 7 = R' 7 then cs else fun _ => []) [] v' ∧ v' 1 = v 1 ∧ v' 2 = v 2 := by
  have hK : 0 ≤ (ru : Int) ∧ zK ru = (7, 10) := by
    refine ⟨by omega, ?_⟩
    rcases hru with rfl | rfl <;> decide
  have hK2 : 0 ≤ ((20 - ru : Nat) : Int) ∧ zK (20 - ru) = (7, 10) := by
    refine ⟨by omega, ?_⟩
    rcases hru with rfl | rfl <;> decide
  -- behind the question
  have main : ∀ x1 : Int, ((x1 = 0 ∧ (R 5 = R' 5 ∧ R 6 = R' 6 ∧ R 7 = R' 7)) ∨ (x1 ≠ 0 ∧ ¬ (R 5 = R' 5 ∧ R 6 = R' 6 ∧ R 7 = R' 7))) → ∃ v', fX11_replaceRules_J25 v x1 = some (v', 0) ∧ zIC R' (20 - ru) (if R 5 = R' 5 ∧ R 6 = R' 6 ∧ R 7 = R' 7 then cs else fun _ => []) [] v' ∧ v' 1 = v 1 ∧ v' 2 = v 2 := fun x1 hx => by
    have nU : ∀ a, a ≠ 0 → a ≠ 102 → a ≠ 110 → zst (zst (zst (zst (zst v 0 2 ((20 - ru : Nat) : Int)) 0 3 (ru : Int)) 102 4 0) 110 0 1) 110 12 0 a = v a := fun a a1 a2 a3 => by funext j; rw [zst_na a3, zst_na a3, zst_na a2, zst_na a1, zst_na a1]
    have n0 : zst (zst (zst (zst (zst v 0 2 ((20 - ru : Nat) : Int)) 0 3 (ru : Int)) 102 4 0) 110 0 1) 110 12 0 0 2 = ((20 - ru : Nat) : Int) ∧ zst (zst (zst (zst (zst v 0 2 ((20 - ru : Nat) : Int)) 0 3 (ru : Int)) 102 4 0) 110 0 1) 110 12 0 0 3 = (ru : Int) := ⟨by rw [zst_na (by decide), zst_na (by decide), zst_na (by decide), zst_nj (by decide), zst_eq], by rw [zst_na (by decide), zst_na (by decide), zst_na (by decide), zst_eq]⟩
    have n102 : zst (zst (zst (zst (zst v 0 2 ((20 - ru : Nat) : Int)) 0 3 (ru : Int)) 102 4 0) 110 0 1) 110 12 0 102 4 = 0 := by rw [zst_na (by decide), zst_na (by decide), zst_eq]
    have n110 : zst (zst (zst (zst (zst v 0 2 ((20 - ru : Nat) : Int)) 0 3 (ru : Int)) 102 4 0) 110 0 1) 110 12 0 110 12 = 0 ∧ ∀ j : Int, j ≠ 0 → j ≠ 12 → zst (zst (zst (zst (zst v 0 2 ((20 - ru : Nat) : Int)) 0 3 (ru : Int)) 102 4 0) 110 0 1) 110 12 0 110 j = v 110 j := ⟨zst_eq, fun j j1 j2 => by rw [zst_nj j2, zst_nj j1, zst_na (by decide), zst_na (by decide), zst_na (by decide)]⟩
    unfold fX11_replaceRules_J25 fX8_forget
    rw [h1, Int.toNat_natCast, zb_e, zck_pos hK, h2, Int.toNat_natCast, zb_e, zck_pos hK2, zb_e, zb_e, zb_e, zb_e, zb_e, zcl_e]
    generalize zst (zst (zst (zst (zst v 0 2 ((20 - ru : Nat) : Int)) 0 3 (ru : Int)) 102 4 0) 110 0 1) 110 12 0 = u at nU n0 n102 n110 ⊢
    obtain ⟨v', g1, g2, g3, g4⟩ := repl_L (x1 := x1) 4 zFU 0 u rfl (zFU_lt (by decide))
    rw [show ((0 : Nat) : Int) = 0 from rfl] at g1
    rw [g1, zl_e]
    have gl : ∀ a, a < 28 → v' a = u a := fun a ha => g4 a fun w _ hw => by omega
    have gh : ∀ a, 102 ≤ a → v' a = u a := fun a ha => g4 a fun w _ hw => by omega
    refine ⟨v', rfl, ⟨⟨?_, by omega⟩, ?_, ?_, ⟨?_, Nat.zero_le _, fun t ht => absurd ht (Nat.not_lt_zero _)⟩, ?_, fun w hw => ⟨?_, ?_, fun h0 => ?_⟩⟩, ?_, ?_⟩
    · rw [gl 0 (by decide)]; exact n0.1
    · rw [gl 0 (by decide), n0.2]; omega
    · exact h4.of2 hR' fun a a1 a2 => by rw [gl a (by omega), nU a (by omega) (by omega) (by omega)]
    · rw [gh 102 (by decide)]; exact n102
    · exact h5.fg (by rw [gh 110 (by decide)]; exact n110.1) (fun j j1 j2 => by rw [gh 110 (by decide)]; exact n110.2 j j1 j2) fun a a1 a2 => by rw [gh a (by omega), nU a (by omega) (by omega) (by omega)]
    · obtain ⟨q1, q2⟩ := g3 w (Nat.zero_le _) hw
      have hc := (h6 w hw).1
      rcases hx with ⟨x0, xs⟩ | ⟨x0, xs⟩
      · rw [if_pos xs]
        unfold zCdC at hc ⊢
        rw [q2 x0, g4 (28 + (2 + 18 * w) + 1) (fun x _ hx => by omega), g4 (28 + (2 + 18 * w) + 2) (fun x _ hx => by omega), nU _ (by omega) (by omega) (by omega), nU _ (by omega) (by omega) (by omega), nU _ (by omega) (by omega) (by omega)]
        exact hc
      · rw [if_neg xs]
        exact ⟨q1 x0, fun i hi => absurd hi (Nat.not_lt_zero _)⟩
    · obtain ⟨q1, q2, q3⟩ := g2 w (Nat.zero_le _) hw
      exact (h6 w hw).2.fg q2 (fun j j1 j2 => by rw [q3 j j1 j2, nU _ (by omega) (by omega) (by omega)]) fun a a1 a2 => by rw [g4 a (fun x _ hx => by omega), nU a (by omega) (by omega) (by omega)]
    · obtain ⟨q1, q2, q3⟩ := g2 w (Nat.zero_le _) hw
      rw [q1] at h0
      exact absurd h0 (by decide)
    · rw [gl 1 (by decide), nU 1 (by decide) (by decide) (by decide)]
    · rw [gl 2 (by decide), nU 2 (by decide) (by decide) (by decide)]
  unfold fX11_replaceRules
  rw [h1, Int.toNat_natCast, zb_e, zck_pos hK, h2, Int.toNat_natCast, zb_e, zck_pos hK2, c_same h3 h4, zcl_e]
  by_cases c : R 5 = R' 5 ∧ R 6 = R' 6 ∧ R 7 = R' 7
  · have hm := main 0 (Or.inl ⟨rfl, c⟩)
    rw [if_pos c] at hm ⊢
    rw [if_pos p10, if_pos c]
    exact hm
  · have hm := main 1 (Or.inr ⟨by decide, c⟩)
    rw [if_neg c] at hm ⊢
    rw [if_neg n00, if_neg c]
    exact hm
