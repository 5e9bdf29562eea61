/-! PURE: line after line, by both. My own text. -/
theorem ln_any {B : Nat → Int} {N ru T : Nat} {c0 m0 vC vM : zHp} {s e : Nat} {t : Int} (h : xGd B N ru T c0 m0 vC vM s e t) (hd : zDr ru vC vM) : (∃ vC' vM' s' e' t' T', fX6_readLine vC ru = fX6_readLine_J198 vC' ∧ fX12_line vM = some (vM', 1) ∧ xGd B N ru T' c0 m0 vC' vM' s' e' t' ∧ s < s' ∧ zDr ru vC' vM' ∧ xU T' vM' = xU T vM + 1) ∨ ∃ (F : Int) (vC' vM' : zHp), fX6_readLine vC ru = fX6_readLine_J198 vC' ∧ fX12_line vM = some (vM', 0) ∧ xBd B N ru F c0 vC' ∧ xBM F m0 vM' := by
  have fin : ∀ (co : (zHp → Option (zHp × Int)) → Option (zHp × Int)) (mo : Option (zHp × Int)), xOut B N ru c0 m0 (xU T vM) s co mo → (∃ vC' vM' s' e' t' T', co fX6_readLine_J198 = fX6_readLine_J198 vC' ∧ (zcl mo fun v r => zck (r = 0 ∨ r = 1) <| some (v, r)) = some (vM', 1) ∧ xGd B N ru T' c0 m0 vC' vM' s' e' t' ∧ s < s' ∧ zDr ru vC' vM' ∧ xU T' vM' = xU T vM + 1) ∨ ∃ (F : Int) (vC' vM' : zHp), co fX6_readLine_J198 = fX6_readLine_J198 vC' ∧ (zcl mo fun v r => zck (r = 0 ∨ r = 1) <| some (v, r)) = some (vM', 0) ∧ xBd B N ru F c0 vC' ∧ xBM F m0 vM' := fun co mo hx => by
    rcases hx with ⟨vC', vM', s', e', t', T', g1, g2, g3, g4, g5, g6⟩ | ⟨F, vC', vM', g1, g2, g3, g4⟩
    · exact Or.inl ⟨vC', vM', s', e', t', T', g1 _, by rw [g2, zcl_e, zck_pos (by decide)], g3, g4, g5, g6⟩
    · exact Or.inr ⟨F, vC', vM', g1 _, by rw [g2, zcl_e, zck_pos (by decide)], g3, g4⟩
  obtain ⟨r1, a1, a2, a3, a4⟩ := gd_tells h xw_clock
  obtain ⟨r2, b1, b2, b3, b4⟩ := gd_tells h xw_holiday
  obtain ⟨r3, d1, d2, d3, d4⟩ := gd_tells h xw_round
  obtain ⟨r4, f1, f2, f3, f4⟩ := gd_tells h xw_meal
  obtain ⟨r5, g1, g2, g3, g4⟩ := gd_tells h xw_longest
  obtain ⟨r6, j1, j2, j3, j4⟩ := gd_tells h xw_rate
  obtain ⟨r7, k1, k2, k3, k4⟩ := gd_tells h xw_premium
  unfold fX6_readLine fX12_line
  rw [a1, zcl_e, a2, zcl_e]
  by_cases x1 : r1 = 0
  · rw [if_pos x1, if_pos x1, b1, zcl_e, b2, zcl_e]
    by_cases x2 : r2 = 0
    · rw [if_pos x2, if_pos x2, d1, zcl_e, d2, zcl_e]
      by_cases x3 : r3 = 0
      · rw [if_pos x3, if_pos x3, f1, zcl_e, f2, zcl_e]
        by_cases x4 : r4 = 0
        · rw [if_pos x4, if_pos x4, g1, zcl_e, g2, zcl_e]
          by_cases x5 : r5 = 0
          · rw [if_pos x5, if_pos x5, j1, zcl_e, j2, zcl_e]
            by_cases x6 : r6 = 0
            · rw [if_pos x6, if_pos x6, k1, zcl_e, k2, zcl_e]
              by_cases x7 : r7 = 0
              · obtain ⟨z1, _, z2, z3, z4⟩ := gd_bad h (k := 1) (by decide) 0
                rw [if_pos x7, if_pos x7, h.1.2.2.1, z4, zcl_e, z3, zcl_e, zck_pos (by decide)]
                exact Or.inr ⟨_, _, _, rfl, rfl, z1, z2⟩
              · rw [if_neg x7, if_neg x7]
                exact fin _ _ (ln_premium h (k4 (by omega)) hd)
            · have := ln_one h (j4 (by omega)) hd (i := 4) (by decide) (m := 4) (lo := 1) (hi' := 400) (by decide) (by decide) (by decide) (fun x x1 x2 => by omega)
              rw [show ((2 ^ 4 : Nat) : Int) = 16 from rfl, show ((4 : Nat) : Int) = 4 from rfl, show (4 : Int) + 5 = 9 from rfl] at this
              rw [if_neg x6, if_neg x6]
              exact fin _ _ this
          · have := ln_one h (g4 (by omega)) hd (i := 3) (by decide) (m := 3) (lo := 1) (hi' := 24) (by decide) (by decide) (by decide) (fun x x1 x2 => by omega)
            rw [show ((2 ^ 3 : Nat) : Int) = 8 from rfl, show ((3 : Nat) : Int) = 3 from rfl, show (3 : Int) + 5 = 8 from rfl] at this
            rw [if_neg x5, if_neg x5]
            exact fin _ _ this
        · rw [if_neg x4, if_neg x4]
          exact fin _ _ (ln_meal h (f4 (by omega)) hd)
      · have := ln_one h (d4 (by omega)) hd (i := 1) (by decide) (m := 0) (lo := 0) (hi' := 14) (by decide) (by decide) (by decide) (fun x x1 x2 => by omega)
        rw [show ((2 ^ 1 : Nat) : Int) = 2 from rfl, show ((1 : Nat) : Int) = 1 from rfl, show (0 : Int) + 5 = 5 from rfl] at this
        rw [if_neg x3, if_neg x3]
        exact fin _ _ this
    · rw [if_neg x2, if_neg x2]
      exact fin _ _ (ln_feast h (b4 (by omega)) hd)
  · rw [if_neg x1, if_neg x1]
    exact fin _ _ (ln_clock h (a4 (by omega)) hd)
/-- a line and its end -/
theorem rd_step {B : Nat → Int} {N ru T : Nat} {c0 m0 vC vM : zHp} {s e : Nat} {t : Int} (h : xGd B N ru T c0 m0 vC vM s e t) (ht : t ≠ 0) (hd : zDr ru vC vM) : (∃ vC' vM' s' e' t' T', fX6_readLine vC ru = some (vC', 0) ∧ (∀ f, fX12_rules_L49 (f + 1) vM 1 = fX12_rules_L49 f vM' 1) ∧ xGd B N ru T' c0 m0 vC' vM' s' e' t' ∧ s < s' ∧ zDr ru vC' vM' ∧ xU T' vM' = xU T vM + 1) ∨ ∃ (F : Int) (vC' vM' : zHp), fX6_readLine vC ru = some (vC', 0) ∧ (∀ f, fX12_rules_L49 (f + 2) vM 1 = some (vM', 0)) ∧ xBd B N ru F c0 vC' ∧ xBM F m0 vM' := by
  have off : ∀ (f : Nat) (v : zHp), fX12_rules_J83 (fX12_rules_L49 (f + 1)) v 0 = some (v, 0) := fun f v => by
    unfold fX12_rules_J83
    rw [if_pos rfl, fX12_rules_L49.eq_2, if_pos rfl]
  have hM6 : vM 137 6 = t := h.2.1.2.1
  have stp : ∀ f, fX12_rules_L49 (f + 1) vM 1 = zcl (fX12_line vM) fun v15 r16 => if r16 = 0 then (fX12_rules_J83 (fX12_rules_L49 f) v15 r16) else (if v15 137 6 = 3 then (fX12_rules_J83 (fX12_rules_L49 f) v15 r16) else (zcl (fX12_bad v15 1) fun v21 r22 => fX12_rules_J83 (fX12_rules_L49 f) v21 r22)) := fun f => by
    rw [fX12_rules_L49.eq_2, if_neg n10, hM6, if_neg ht]
  rcases ln_any h hd with ⟨vC1, vM1, s1, e1, t1, T1, a1, a2, a3, a4, a5, a6⟩ | ⟨F, vC1, vM1, a1, a2, a3, a4⟩
  · have hC3 : vC1 1 3 = t1 := a3.1.2.1
    have hM3 : vM1 137 6 = t1 := a3.2.1.2.1
    rw [a1]
    unfold fX6_readLine_J198 fX6_passIf fX6_passIf_J13
    rw [hC3]
    by_cases c : t1 = 3
    · left
      obtain ⟨vC2, vM2, s2, e2, t2, b1, b2, b3, b4, b5, b6, b7⟩ := gd_adv a3
      rw [if_neg (show ¬ t1 ≠ 3 from fun g => g c), if_pos p10, if_neg (show ¬ vC1 3 0 ≠ -1 from fun g => g a3.2.2.2.1.1), b1, zcl_e, zcl_e]
      refine ⟨vC2, vM2, s2, e2, t2, T1, rfl, fun f => ?_, b3, ?_, a5.of (fun a x1 _ => b5 a x1) b6, by rw [xU_of b6]; exact a6⟩
      · rw [stp, a2, zcl_e, if_neg n10, hM3, if_pos c]
        unfold fX12_rules_J83
        rw [if_neg n10, b2, zcl_e]
      · have := a3.2.2.1.1
        omega
    · right
      obtain ⟨z1, _, z2, z3, z4⟩ := gd_bad a3 (k := 1) (by decide) 0
      rw [if_pos c, if_neg n00, a3.1.2.2.1, z4, zcl_e, if_pos z1.nf, zcl_e]
      refine ⟨_, _, _, rfl, fun f => ?_, z1, z2⟩
      rw [stp, a2, zcl_e, if_neg n10, hM3, if_neg c, z3, zcl_e, off]
  · right
    have hJ : fX6_readLine_J198 vC1 = some (vC1, 0) := by
      unfold fX6_readLine_J198
      rw [bd_pass a3, bd_pass a3, zcl_e]
      split
      · rfl
      · rfl
    rw [a1, hJ]
    refine ⟨F, vC1, vM1, rfl, fun f => ?_, a3, a4⟩
    rw [stp, a2, zcl_e, if_pos rfl, off]
theorem rd_L {B : Nat → Int} {N ru : Nat} {c0 m0 : zHp} : ∀ (d fuC fuM lines : Nat) (vC vM : zHp) (s e T : Nat) (t : Int), N ≤ s + d → d + 1 < fuC → 19 ≤ fuM + xU T vM → lines ≤ s → xGd B N ru T c0 m0 vC vM s e t → zDr ru vC vM → (∃ vC' vM' s' e' t' T', fX6_read_L22 fuC vC (N : Int) ru (lines : Int) = some (vC', 0) ∧ fX12_rules_L49 fuM vM 1 = some (vM', 1) ∧ xGd B N ru T' c0 m0 vC' vM' s' e' t' ∧ zDr ru vC' vM') ∨ ∃ (F : Int) (vC' vM' : zHp), fX6_read_L22 fuC vC (N : Int) ru (lines : Int) = some (vC', 0) ∧ fX12_rules_L49 fuM vM 1 = some (vM', 0) ∧ xBd B N ru F c0 vC' ∧ xBM F m0 vM' := by
  intro d
  induction d with
  | zero =>
    intro fuC fuM lines vC vM s e T t h1 h2 h3 h4 h hd
    obtain ⟨f, rfl⟩ : ∃ f, fuC = f + 1 := ⟨fuC - 1, by omega⟩
    have hu : xU T vM ≤ 17 := by
      have := xPc_b T
      have := hd.2.2.2.1
      unfold xU
      omega
    obtain ⟨g, rfl⟩ : ∃ g, fuM = g + 1 := ⟨fuM - 1, by omega⟩
    have h0 : t = 0 := by
      rcases h.2.2.1.2.2.1 with a | a
      · exact a.1
      · have := h.2.2.1.2.1
        omega
    left
    refine ⟨vC, vM, s, e, t, T, ?_, ?_, h, hd⟩
    · rw [fX6_read_L22.eq_2, h.2.2.2.1.1, h.1.2.1]
      by_cases c : (N : Int) ≤ (lines : Int)
      · rw [if_pos c]
      · rw [if_neg c, if_neg (fun g => g rfl), if_pos h0]
    · rw [fX12_rules_L49.eq_2, if_neg n10, h.2.1.2.1, if_pos h0]
  | succ d ih =>
    intro fuC fuM lines vC vM s e T t h1 h2 h3 h4 h hd
    obtain ⟨f, rfl⟩ : ∃ f, fuC = f + 1 := ⟨fuC - 1, by omega⟩
    have hu : xU T vM ≤ 17 := by
      have := xPc_b T
      have := hd.2.2.2.1
      unfold xU
      omega
    obtain ⟨g, rfl⟩ : ∃ g, fuM = g + 2 := ⟨fuM - 2, by omega⟩
    by_cases h0 : t = 0
    · left
      refine ⟨vC, vM, s, e, t, T, ?_, ?_, h, hd⟩
      · rw [fX6_read_L22.eq_2, h.2.2.2.1.1, h.1.2.1]
        by_cases c : (N : Int) ≤ (lines : Int)
        · rw [if_pos c]
        · rw [if_neg c, if_neg (fun g => g rfl), if_pos h0]
      · rw [fX12_rules_L49.eq_2, if_neg n10, h.2.1.2.1, if_pos h0]
    · have hs : s < N := by
        rcases h.2.2.1.2.2.1 with a | a
        · exact absurd a.1 h0
        · have := h.2.2.1.2.1
          omega
      have hN : N ≤ 400 := h.2.2.2.2.2.2.2.1.1
      have eC : ∀ v : zHp, fX6_readLine vC ru = some (v, 0) → fX6_read_L22 (f + 1) vC (N : Int) ru (lines : Int) = fX6_read_L22 f v (N : Int) ru ((lines + 1 : Nat) : Int) := fun v hv => by
        rw [fX6_read_L22.eq_2, if_neg (by omega), h.2.2.2.1.1, if_neg (fun g => g rfl), h.1.2.1, if_neg h0, hv, zcl_e, zn_pos (by omega), show (lines : Int) + 1 = ((lines + 1 : Nat) : Int) by omega]
      rcases rd_step h h0 hd with ⟨vC1, vM1, s1, e1, t1, T1, a1, a2, a3, a4, a5, a6⟩ | ⟨F, vC1, vM1, a1, a2, a3, a4⟩
      · rw [eC _ a1, a2]
        exact ih f (g + 1) (lines + 1) vC1 vM1 s1 e1 T1 t1 (by omega) (by omega) (by omega) (by omega) a3 a5
      · right
        obtain ⟨f', rfl⟩ : ∃ f', f = f' + 1 := ⟨f - 1, by omega⟩
        refine ⟨F, vC1, vM1, ?_, a2 g, a3, a4⟩
        rw [eC _ a1, fX6_read_L22.eq_2]
        by_cases c : (N : Int) ≤ ((lines + 1 : Nat) : Int)
        · rw [if_pos c]
        · rw [if_neg c, if_pos a3.nf]
