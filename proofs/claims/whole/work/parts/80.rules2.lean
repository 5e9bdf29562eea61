/-! PURE: rules, whole: both sides. My own text. -/
theorem a_rules {vC vM : zHp} (hI : zInv vC vM) (x1 : Int) : ∃ vC' vM' r, fX11_rules vC x1 = some (vC', r) ∧ fX12_rules vM x1 = some (vM', r) ∧ zInv vC' vM' := by
  obtain ⟨ru, cs, hs, R, hR, hC, hM, hT, hok, hV⟩ := hI
  have hM1 := hM.mv (zMP.thr (v := vM) 0)
  obtain ⟨p1, p2, p3, p4⟩ := id hT
  obtain ⟨i1, i2, i3, i4, i5, i6⟩ := id hC
  have hru := i1.2
  have z2 : zst vM 137 0 0 137 2 = vM 137 2 := zst_nj (by decide)
  have z138 : zst vM 137 0 0 138 = vM 138 := by funext j; exact zst_na (by decide)
  unfold fX11_rules fX12_rules
  rw [zb_e (zst vM 137 0 0), z2, m_within, zcl_e, p3]
  by_cases c : 0 ≤ x1 ∧ x1 ≤ vM 137 2
  · obtain ⟨N, rfl⟩ : ∃ N : Nat, x1 = (N : Int) := ⟨x1.toNat, by omega⟩
    have hru2 : 20 - ru = 4 ∨ 20 - ru = 16 := by omega
    have hK2 : 0 ≤ ((20 - ru : Nat) : Int) ∧ zK (20 - ru) = (7, 10) := by
      refine ⟨by omega, ?_⟩
      rcases hru with rfl | rfl <;> decide
    have h03 : vC 0 3 = ((20 - ru : Nat) : Int) := by rw [i2]; omega
    obtain ⟨v9, v12, wC, wM, r, F, a1, a2, a3, a4, a5, a6, a7, a8, a9⟩ := rd_both (vC := vC) (vM := zst vM 137 0 0) (N := N) hru2 (by omega) (by omega) (fun j hj => by rw [z138]; exact p4 (j : Int) (by omega) (by omega))
    rw [if_neg (by omega : ¬ (N : Int) < 0), if_pos c.2, h03, Int.toNat_natCast, zb_e, zck_pos hK2, a4, zcl_e, zb_e, if_pos c, if_pos p10, zb_e, zb_e, zb_e, zb_e, a1, zcl_e, a2, zcl_e, a3, zl_e]
    have nC : ∀ a, a ≠ 1 → zst wC 1 1 0 a = wC a := fun a ha => by funext j; exact zst_na ha
    have b139 : wM 139 = R := by rw [a7 139 (by decide) (by decide)]; exact hM1.1
    rcases a5 with ⟨rfl, rfl, hD⟩ | ⟨rfl, hF, hF1, hF2⟩
    · obtain ⟨m3, t1, t2, t3⟩ := m_takes wM
      have hE : zE51 (wM 140) (m3 139) := fun k k0 k1 => by rw [t2, if_pos ⟨k0, k1⟩]
      have hR' : zWR (m3 139) := hE.wr hD.2
      have hrc' : zRC (20 - ru) (zst wC 1 1 0) (m3 139) := (hE.rc hD.2 hD.1).of2 hR' fun a b1 b2 => nC a (by omega)
      obtain ⟨w', g1, g2, g3, g4⟩ := c_replace (cs := cs) (hs := hs) (v := zst wC 1 1 0) (R := R) hR' (ru := ru) (by rw [nC 0 (by decide), a6 0 (by decide) (by decide) (by omega)]; exact i1.1) (by rw [nC 0 (by decide), a6 0 (by decide) (by decide) (by omega)]; exact h03) hru (i3.of2 hR fun a b1 b2 => by rw [nC a (by omega), a6 a (by omega) (by omega) (by omega)]) hrc' (i5.of fun a b1 b2 => by rw [nC a (by omega), a6 a (by omega) (by omega) (by omega)]) (fun w hw => ⟨by
        have hc := (i6 w hw).1
        unfold zCdC at hc ⊢
        rw [nC _ (by omega), nC _ (by omega), nC _ (by omega), a6 _ (by omega) (by omega) (by omega), a6 _ (by omega) (by omega) (by omega), a6 _ (by omega) (by omega) (by omega)]
        exact hc, (i6 w hw).2.1.of fun a b1 b2 => by rw [nC a (by omega), a6 a (by omega) (by omega) (by omega)]⟩)
      have h72 : w' 0 2 = ((20 - ru : Nat) : Int) := g2.1.1
      have h710 : w' (20 - ru) 2 = m3 139 10 := g2.2.2.1.2.2.1.1
      -- the reference's cards
      have eS : (wM 139 5 = wM 140 5 ∧ wM 139 6 = wM 140 6 ∧ wM 139 7 = wM 140 7) ↔ (R 5 = m3 139 5 ∧ R 6 = m3 139 6 ∧ R 7 = m3 139 7) := by
        rw [b139, hE 5 (by decide) (by decide), hE 6 (by decide) (by decide), hE 7 (by decide) (by decide)]
      have cards : ∃ m4, fX12_rules_L158 zFU m3 (if wM 139 5 = wM 140 5 ∧ wM 139 6 = wM 140 6 ∧ wM 139 7 = wM 140 7 then 1 else 0) 0 = some (m4, 0) ∧ (∀ w : Nat, w < 4 → zCdM m4 (w : Int) ((if R 5 = m3 139 5 ∧ R 6 = m3 139 6 ∧ R 7 = m3 139 7 then cs else fun _ => []) w)) ∧ ∀ a, a ≠ 141 → m4 a = m3 a := by
        by_cases s : R 5 = m3 139 5 ∧ R 6 = m3 139 6 ∧ R 7 = m3 139 7
        · rw [if_pos (eS.mpr s), if_pos s]
          refine ⟨m3, ?_, fun w hw => ?_, fun a _ => rfl⟩
          · rw [show zFU = 999999 + 1 from rfl, fX12_rules_L158.eq_2, if_neg (by decide), if_pos (by decide)]
          · have hc := hM1.2.2 w hw
            unfold zCdM at hc ⊢
            rw [t3 141 (by decide), t3 142 (by decide), t3 143 (by decide), a7 141 (by decide) (by decide), a7 142 (by decide) (by decide), a7 143 (by decide) (by decide)]
            exact hc
        · rw [if_neg (fun g => s (eS.mp g)), if_neg s]
          obtain ⟨m4, q1, q2, q3⟩ := l158_L 4 zFU 0 m3 rfl (zFU_lt (by decide)) (fun w hw => absurd hw (Nat.not_lt_zero _))
          exact ⟨m4, q1, fun w hw => ⟨q2 w hw, fun i hi => absurd hi (Nat.not_lt_zero _)⟩, q3⟩
      obtain ⟨m4, q1, q2, q3⟩ := cards
      have n16 : ∀ a, a ≠ 137 → zst m4 137 16 0 a = m4 a := fun a ha => by funext j; exact zst_na ha
      rw [if_pos (rfl : (-1 : Int) = -1), g1, zcl_e, h72, Int.toNat_natCast, zb_e, zck_pos hK2, h710, if_pos p10, l111, zl_e, t1, zcl_e, q1, zl_e, zb_e, zck_pos (by decide), n16 139 (by decide), q3 139 (by decide)]
      refine ⟨w', _, m3 139 10, rfl, rfl, 20 - ru, _, [], m3 139, hR', g2, ⟨?_, ⟨?_, Nat.zero_le _, fun t ht => absurd ht (Nat.not_lt_zero _)⟩, fun w hw => ?_⟩, ⟨?_, ?_, ?_, fun j j0 j1 => ?_⟩, fun w hw => ?_, trivial⟩
      · rw [n16 139 (by decide), q3 139 (by decide)]
      · rw [zst_eq]; rfl
      · have hc := q2 w hw
        unfold zCdM at hc ⊢
        rw [n16 141 (by decide), n16 142 (by decide), n16 143 (by decide)]
        exact hc
      · rw [zst_nj (by decide), q3 137 (by decide), t3 137 (by decide), a8]; decide
      · rw [zst_nj (by decide), q3 137 (by decide), t3 137 (by decide), a8]; decide
      · rw [g3, zst_eq, zst_nj (by decide), q3 137 (by decide), t3 137 (by decide), a8]
      · exfalso
        rw [zst_nj (by decide), q3 137 (by decide), t3 137 (by decide), a8] at j1
        omega
      · by_cases s : R 5 = m3 139 5 ∧ R 6 = m3 139 6 ∧ R 7 = m3 139 7
        · rw [if_pos s]
          exact (hok w hw).ck s.1.symm s.2.2.symm
        · rw [if_neg s]
          exact zCdOk.nil
    · rw [if_neg (by omega : ¬ F = -1), zn_pos (by omega), if_neg n00, hF, zn_pos (by omega)]
      refine ⟨_, wM, -2 - F, rfl, rfl, ru, cs, hs, R, hR, ⟨⟨?_, hru⟩, ?_, i3.of2 hR fun a b1 b2 => by rw [nC a (by omega), a6 a (by omega) (by omega) (by omega)], ?_, i5.of fun a b1 b2 => by rw [nC a (by omega), a6 a (by omega) (by omega) (by omega)], fun w hw => ⟨?_, (i6 w hw).2.of fun a b1 b2 => by rw [nC a (by omega), a6 a (by omega) (by omega) (by omega)]⟩⟩, ⟨b139, ?_, fun w hw => ?_⟩, ⟨?_, ?_, ?_, fun j j0 j1 => ?_⟩, hok, hV⟩
      · rw [nC 0 (by decide), a6 0 (by decide) (by decide) (by omega)]; exact i1.1
      · rw [nC 0 (by decide), a6 0 (by decide) (by decide) (by omega)]; exact i2
      · unfold zHiC at i4 ⊢
        rw [nC 102 (by decide), nC 103 (by decide), nC 104 (by decide), nC 105 (by decide), nC 106 (by decide), a6 102 (by decide) (by decide) (by omega), a6 103 (by decide) (by decide) (by omega), a6 104 (by decide) (by decide) (by omega), a6 105 (by decide) (by decide) (by omega), a6 106 (by decide) (by decide) (by omega)]
        exact i4
      · have hc := (i6 w hw).1
        unfold zCdC at hc ⊢
        rw [nC _ (by omega), nC _ (by omega), nC _ (by omega), a6 _ (by omega) (by omega) (by omega), a6 _ (by omega) (by omega) (by omega), a6 _ (by omega) (by omega) (by omega)]
        exact hc
      · have hh := hM1.2.1
        unfold zHiM at hh ⊢
        rw [a9, a7 144 (by decide) (by decide)]
        exact hh
      · have hc := hM1.2.2 w hw
        unfold zCdM at hc ⊢
        rw [a7 141 (by decide) (by decide), a7 142 (by decide) (by decide), a7 143 (by decide) (by decide)]
        exact hc
      · rw [a8]; decide
      · rw [a8]; decide
      · rw [zst_eq, a8]
      · exfalso
        rw [a8] at j1
        omega
  · have hx : (if x1 < 0 then some (vC, (-1 : Int)) else if x1 ≤ vM 137 2 then (zb (vC 0 3).toNat fun u1 => zck (0 ≤ vC 0 3 ∧ zK u1 = (7, 10)) <| zcl (fX6_read vC x1 u1) fun v3 r4 => zb (zst v3 1 1 0) fun v6 => if r4 = (-1) then (zcl (fX11_replaceRules v6) fun v7 r8 => zb (v7 0 2).toNat fun u10 => zck (0 ≤ v7 0 2 ∧ zK u10 = (7, 10)) <| some (v7, v7 u10 2)) else (zn ((-2) - r4) fun t12 => some (v6, t12))) else some (vC, -1)) = some (vC, -1) := by
      by_cases c1 : x1 < 0
      · rw [if_pos c1]
      · rw [if_neg c1, if_neg (by omega)]
    rw [if_neg c, if_neg n00]
    exact ⟨vC, _, -1, hx, rfl, zInv_rd hR hM hT hok hV hC rfl rfl (zMP.thr 0)⟩
