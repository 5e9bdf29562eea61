/-! PURE: rules: what is cleared first and what is put in force. My own text. -/
theorem zand255 (x : Int) : 0 ≤ zand x 255 ∧ zand x 255 ≤ 255 := by
  have e : zI x = nI (zI x).toBitVec.toNat := by
    apply Int32.toBitVec_inj.mp
    show (zI x).toBitVec = BitVec.ofNat 32 (zI x).toBitVec.toNat
    rw [BitVec.ofNat_toNat, BitVec.setWidth_eq]
  have h : zand x 255 = zand (((zI x).toBitVec.toNat : Nat) : Int) ((255 : Nat) : Int) := by
    unfold zand
    rw [zI_n, ← e]
    rfl
  rw [h, zand_nr (by decide)]
  have : (zI x).toBitVec.toNat &&& 255 ≤ 255 := Nat.and_le_right
  omega
/-- what a row says of the rules lies in its first cells -/
def zE51 (R R' : Int → Int) : Prop := ∀ k : Int, 0 ≤ k → k < 51 → R' k = R k
theorem zE51.wr {R R' : Int → Int} (h : zE51 R R') (hR : zWR R) : zWR R' := by
  obtain ⟨w1, w2, w3, w4⟩ := hR
  refine ⟨?_, ?_, ?_, fun p hp => ?_⟩
  · unfold zWk
    rw [h 5 (by decide) (by decide), h 6 (by decide) (by decide), h 7 (by decide) (by decide)]
    exact w1
  · rw [h 0 (by decide) (by decide), h 1 (by decide) (by decide), h 2 (by decide) (by decide), h 3 (by decide) (by decide), h 4 (by decide) (by decide)]
    exact w2
  · rw [h 9 (by decide) (by decide), h 10 (by decide) (by decide), h 8 (by decide) (by decide)]
    exact w3
  · rw [h 10 (by decide) (by decide)] at hp
    rw [h (11 + 5 * (p : Int) + 0) (by omega) (by omega), h (11 + 5 * (p : Int) + 1) (by omega) (by omega), h (11 + 5 * (p : Int) + 2) (by omega) (by omega), h (11 + 5 * (p : Int) + 3) (by omega) (by omega), h (11 + 5 * (p : Int) + 4) (by omega) (by omega)]
    exact w4 p hp
theorem zE51.rc {R R' : Int → Int} (h : zE51 R R') (hR : zWR R) {ru : Nat} {v : zHp} (hr : zRC ru v R) : zRC ru v R' := by
  have w3 := hR.2.2.1
  obtain ⟨h1, h2, h3, h4, h5⟩ := hr
  refine ⟨h1, ?_, ?_, fun p hp f f0 f4 => ?_, fun d d0 d1 => ?_⟩
  · unfold zCK zTurn zShift at h2 ⊢
    rw [h 5 (by decide) (by decide), h 6 (by decide) (by decide), h 7 (by decide) (by decide)]
    exact h2
  · rw [h 10 (by decide) (by decide), h 9 (by decide) (by decide), h 0 (by decide) (by decide), h 1 (by decide) (by decide), h 2 (by decide) (by decide), h 3 (by decide) (by decide), h 4 (by decide) (by decide)]
    exact h3
  · rw [h 10 (by decide) (by decide)] at hp
    rw [h _ (by omega) (by omega)]
    exact h4 p hp f f0 f4
  · rw [h 9 (by decide) (by decide), h 8 (by decide) (by decide)]
    exact h5 d d0 d1
theorem zRC.of2 {ru : Nat} {v v' : zHp} {R : Int → Int} (h : zRC ru v R) (hR : zWR R) (hv : ∀ a : Nat, ru ≤ a → a ≤ ru + 11 → v' a = v a) : zRC ru v' R := by
  obtain ⟨h1, h2, h3, h4, h5⟩ := h
  have hb := hR.2.2.1
  refine ⟨h1, ?_, ?_, fun p hp f a b => ?_, fun d a b => ?_⟩
  · unfold zCK at h2 ⊢
    rw [hv (ru + 1) (by omega) (by omega)]
    exact h2
  · rw [hv ru (by omega) (by omega)]
    exact h3
  · rw [hv _ (by omega) (by omega)]
    exact h4 p hp f a b
  · rw [hv (ru + 3) (by omega) (by omega)]
    exact h5 d a b
/-- the class's draft cleared -/
theorem c_clearR (v : zHp) {ru : Nat} (hru : ru = 4 ∨ ru = 16) : ∃ v', fX7_clear v ru = some (v', 0) ∧ (v' (ru + 1) 0 = -1 ∧ v' (ru + 1) 1 = -1 ∧ v' (ru + 1) 2 = -1 ∧ v' (ru + 1) 3 = -1500 ∧ v' (ru + 1) 4 = 0) ∧ (v' ru 2 = 0 ∧ v' ru 4 = 0 ∧ v' ru 5 = 7 ∧ v' ru 6 = 0 ∧ v' ru 7 = 0 ∧ v' ru 8 = 16 ∧ v' ru 9 = 100) ∧ ∀ a, a ≠ ru → a ≠ ru + 1 → v' a = v a := by
  unfold fX7_clear
  rw [c_set v (ru + 1) (by decide) (by decide), zcl_e, zb_e, zb_e, zb_e, zb_e, zb_e, zb_e, zb_e]
  have n1 : ∀ (w : zHp) (j x : Int), zst w ru j x (ru + 1) = w (ru + 1) := fun w j x => by funext i; exact zst_na (by omega)
  refine ⟨_, rfl, ⟨?_, ?_, ?_, ?_, ?_⟩, ⟨?_, ?_, ?_, ?_, ?_, ?_, ?_⟩, fun a a1 a2 => ?_⟩
  · rw [n1, n1, n1, n1, n1, n1, n1, zst_nj (by decide), zst_nj (by decide), zst_nj (by decide), zst_nj (by decide), zst_eq]
  · rw [n1, n1, n1, n1, n1, n1, n1, zst_nj (by decide), zst_nj (by decide), zst_nj (by decide), zst_eq]
  · rw [n1, n1, n1, n1, n1, n1, n1, zst_nj (by decide), zst_nj (by decide), zst_eq]
  · rw [n1, n1, n1, n1, n1, n1, n1, zst_nj (by decide), zst_eq]
    rfl
  · rw [n1, n1, n1, n1, n1, n1, n1, zst_eq]
    rfl
  · rw [zst_nj (by decide), zst_nj (by decide), zst_nj (by decide), zst_nj (by decide), zst_nj (by decide), zst_nj (by decide), zst_eq]
  · rw [zst_nj (by decide), zst_nj (by decide), zst_nj (by decide), zst_nj (by decide), zst_nj (by decide), zst_eq]
  · rw [zst_nj (by decide), zst_nj (by decide), zst_nj (by decide), zst_nj (by decide), zst_eq]
  · rw [zst_nj (by decide), zst_nj (by decide), zst_nj (by decide), zst_eq]
  · rw [zst_nj (by decide), zst_nj (by decide), zst_eq]
  · rw [zst_nj (by decide), zst_eq]
  · rw [zst_eq]
  · funext i
    rw [zst_na a1, zst_na a1, zst_na a1, zst_na a1, zst_na a1, zst_na a1, zst_na a1, zst_na a2, zst_na a2, zst_na a2, zst_na a2, zst_na a2]
/-- the reference's draft cleared -/
theorem mclr_L : ∀ (d fu k : Nat) (v : zHp), k + d = 51 → d < fu → (∀ j : Nat, j < k → v 140 (j : Int) = 0) → ∃ v', fX12_clearsDraft_L2 fu v (k : Int) = some (v', 0) ∧ (∀ j : Nat, j < 51 → v' 140 (j : Int) = 0) ∧ ∀ a, a ≠ 140 → v' a = v a
  | 0, fu, k, v, e1, e2, e3 => by
    obtain ⟨f, rfl⟩ : ∃ f, fu = f + 1 := ⟨fu - 1, by omega⟩
    refine ⟨v, ?_, fun j hj => e3 j (by omega), fun a _ => rfl⟩
    rw [fX12_clearsDraft_L2.eq_2, if_pos (by omega)]
  | d + 1, fu, k, v, e1, e2, e3 => by
    obtain ⟨f, rfl⟩ : ∃ f, fu = f + 1 := ⟨fu - 1, by omega⟩
    have na : ∀ a, a ≠ 140 → zst v 140 (k : Int) 0 a = v a := fun a ha => by funext j; exact zst_na ha
    obtain ⟨v', g1, g2, g3⟩ := mclr_L d f (k + 1) (zst v 140 (k : Int) 0) (by omega) (by omega) (fun j hj => by
      rw [zst_if]
      by_cases c : j = k
      · rw [if_pos (by omega)]
      · rw [if_neg (by omega)]
        exact e3 j (by omega))
    refine ⟨v', ?_, g2, fun a ha => by rw [g3 a ha, na a ha]⟩
    rw [fX12_clearsDraft_L2.eq_2, if_neg (by omega), zck_pos (by omega), zb_e, zn_pos (by omega), show (k : Int) + 1 = ((k + 1 : Nat) : Int) by omega]
    exact g1
def xDf (k : Int) : Int := if k = 7 then -1 else if k = 6 then -1 else if k = 5 then -1 else if k = 4 then 100 else if k = 3 then 16 else if k = 0 then 7 else 0
theorem m_clears (v : zHp) : ∃ v', fX12_clearsDraft v = some (v', 0) ∧ (∀ k : Int, 0 ≤ k → k < 51 → v' 140 k = xDf k) ∧ v' 137 12 = 0 ∧ (∀ j, j ≠ 12 → v' 137 j = v 137 j) ∧ ∀ a, a ≠ 137 → a ≠ 140 → v' a = v a := by
  obtain ⟨u, g1, g2, g3⟩ := mclr_L 51 zFU 0 v rfl (zFU_lt (by decide)) (fun j hj => absurd hj (Nat.not_lt_zero _))
  rw [show ((0 : Nat) : Int) = 0 from rfl] at g1
  unfold fX12_clearsDraft
  rw [g1, zl_e, zck_pos (by decide), zb_e, zck_pos (by decide), zb_e, zck_pos (by decide), zb_e, zck_pos (by decide), zb_e, zck_pos (by decide), zb_e, zck_pos (by decide), zb_e, zb_e]
  refine ⟨_, rfl, fun k k0 k1 => ?_, zst_eq, fun j hj => ?_, fun a a1 a2 => ?_⟩
  · have := g2 k.toNat (by omega)
    rw [show ((k.toNat : Nat) : Int) = k by omega] at this
    rw [zst_na (by decide), zst_if, zst_if, zst_if, zst_if, zst_if, zst_if, this]
    rfl
  · rw [zst_nj hj, zst_na (by decide), zst_na (by decide), zst_na (by decide), zst_na (by decide), zst_na (by decide), zst_na (by decide), g3 137 (by decide)]
  · funext i
    rw [zst_na a1, zst_na a2, zst_na a2, zst_na a2, zst_na a2, zst_na a2, zst_na a2, g3 a a2]
theorem xDf_wr : zWR xDf := by
  refine ⟨Or.inl ⟨rfl, rfl, rfl⟩, ?_, ?_, fun p hp => ?_⟩
  · show 0 ≤ (7 : Int) ∧ (7 : Int) ≤ 14 ∧ 0 ≤ (0 : Int) ∧ (0 : Int) ≤ 96 ∧ 0 ≤ (0 : Int) ∧ (0 : Int) ≤ 16 ∧ 1 ≤ (16 : Int) ∧ (16 : Int) ≤ 24 ∧ 1 ≤ (100 : Int) ∧ (100 : Int) ≤ 400
    decide
  · show 0 ≤ (0 : Int) ∧ (0 : Int) ≤ 4 ∧ 0 ≤ (0 : Int) ∧ (0 : Int) ≤ 8 ∧ 0 ≤ (0 : Int) ∧ (0 : Int) < 268435456
    decide
  · have : xDf 10 = 0 := rfl
    omega
theorem zbit0 : ∀ d : Nat, d ≤ 27 → zand (zshr 0 (d : Int)) 1 ≠ 1 := by decide +kernel
theorem xDf_rc {ru : Nat} {v : zHp} (hru : ru = 4 ∨ ru = 16) (h1 : v (ru + 1) 0 = -1 ∧ v (ru + 1) 1 = -1 ∧ v (ru + 1) 2 = -1 ∧ v (ru + 1) 3 = -1500 ∧ v (ru + 1) 4 = 0) (h2 : v ru 2 = 0 ∧ v ru 4 = 0 ∧ v ru 5 = 7 ∧ v ru 6 = 0 ∧ v ru 7 = 0 ∧ v ru 8 = 16 ∧ v ru 9 = 100) : zRC ru v xDf := by
  refine ⟨hru, h1, h2, fun p hp => ?_, fun d d0 d1 => ?_⟩
  · have : xDf 10 = 0 := rfl
    omega
  · constructor
    · rintro ⟨i, i0, i1, _⟩
      have : xDf 9 = 0 := rfl
      omega
    · intro g
      have := zbit0 d.toNat (by omega)
      rw [show ((d.toNat : Nat) : Int) = d by omega] at this
      exact absurd g this
/-- sheets forgotten, cards emptied -/
theorem repl_L {x1 : Int} : ∀ (d fu k : Nat) (v : zHp), k + d = 4 → d < fu → ∃ v', fX11_replaceRules_L61 fu v x1 (k : Int) = some (v', 0) ∧ (∀ w : Nat, k ≤ w → w < 4 → v' (29 + (4 + 18 * w)) 0 = 1 ∧ v' (29 + (4 + 18 * w)) 12 = 0 ∧ ∀ j : Int, j ≠ 0 → j ≠ 12 → v' (29 + (4 + 18 * w)) j = v (29 + (4 + 18 * w)) j) ∧ (∀ w : Nat, k ≤ w → w < 4 → (x1 ≠ 0 → v' (28 + (2 + 18 * w)) 2 = 0) ∧ (x1 = 0 → v' (28 + (2 + 18 * w)) = v (28 + (2 + 18 * w)))) ∧ ∀ a, (∀ w : Nat, k ≤ w → w < 4 → a ≠ 29 + (4 + 18 * w) ∧ a ≠ 28 + (2 + 18 * w)) → v' a = v a
  | 0, fu, k, v, e1, e2 => by
    obtain ⟨f, rfl⟩ : ∃ f, fu = f + 1 := ⟨fu - 1, by omega⟩
    refine ⟨v, ?_, fun w h1 h2 => absurd h2 (by omega), fun w h1 h2 => absurd h2 (by omega), fun a _ => rfl⟩
    rw [fX11_replaceRules_L61.eq_2, if_pos (by omega)]
  | d + 1, fu, k, v, e1, e2 => by
    obtain ⟨f, rfl⟩ : ∃ f, fu = f + 1 := ⟨fu - 1, by omega⟩
    rw [fX11_replaceRules_L61.eq_2, if_neg (by omega), zck_pos (by omega), Int.toNat_natCast, zb_e]
    unfold fX8_forget
    rw [zb_e, zb_e, zcl_e, zck_pos (by omega), zb_e, zb_e, zn_pos (by omega), show (k : Int) + 1 = ((k + 1 : Nat) : Int) by omega]
    have nS : ∀ a, a ≠ 29 + (4 + 18 * k) → zst (zst v (29 + (4 + 18 * k)) 0 1) (29 + (4 + 18 * k)) 12 0 a = v a := fun a ha => by funext j; rw [zst_na ha, zst_na ha]
    have main : ∀ u : zHp, (∀ a, a ≠ 29 + (4 + 18 * k) → a ≠ 28 + (2 + 18 * k) → u a = v a) → (u (29 + (4 + 18 * k)) = zst (zst v (29 + (4 + 18 * k)) 0 1) (29 + (4 + 18 * k)) 12 0 (29 + (4 + 18 * k))) → (x1 ≠ 0 → u (28 + (2 + 18 * k)) 2 = 0) → (x1 = 0 → u (28 + (2 + 18 * k)) = v (28 + (2 + 18 * k))) → ∃ v', fX11_replaceRules_L61 f u x1 ((k + 1 : Nat) : Int) = some (v', 0) ∧ (∀ w : Nat, k ≤ w → w < 4 → v' (29 + (4 + 18 * w)) 0 = 1 ∧ v' (29 + (4 + 18 * w)) 12 = 0 ∧ ∀ j : Int, j ≠ 0 → j ≠ 12 → v' (29 + (4 + 18 * w)) j = v (29 + (4 + 18 * w)) j) ∧ (∀ w : Nat, k ≤ w → w < 4 → (x1 ≠ 0 → v' (28 + (2 + 18 * w)) 2 = 0) ∧ (x1 = 0 → v' (28 + (2 + 18 * w)) = v (28 + (2 + 18 * w)))) ∧ ∀ a, (∀ w : Nat, k ≤ w → w < 4 → a ≠ 29 + (4 + 18 * w) ∧ a ≠ 28 + (2 + 18 * w)) → v' a = v a := fun u u1 u2 u3 u4 => by
      obtain ⟨v', g1, g2, g3, g4⟩ := repl_L (x1 := x1) d f (k + 1) u (by omega) (by omega)
      refine ⟨v', g1, fun w a b => ?_, fun w a b => ?_, fun a ha => ?_⟩
      · by_cases c : w = k
        · subst c
          rw [g4 _ (fun x _ _ => by omega), u2]
          exact ⟨by rw [zst_nj (by decide), zst_eq], zst_eq, fun j j1 j2 => by rw [zst_nj j2, zst_nj j1]⟩
        · obtain ⟨q1, q2, q3⟩ := g2 w (by omega) b
          exact ⟨q1, q2, fun j j1 j2 => by rw [q3 j j1 j2, u1 _ (by omega) (by omega)]⟩
      · by_cases c : w = k
        · subst c
          rw [g4 _ (fun x _ _ => by omega)]
          exact ⟨u3, u4⟩
        · obtain ⟨q1, q2⟩ := g3 w (by omega) b
          exact ⟨q1, fun h => by rw [q2 h, u1 _ (by omega) (by omega)]⟩
      · rw [g4 a fun w a1 a2 => ha w (by omega) a2]
        have := ha k (Nat.le_refl _) (by omega)
        exact u1 a this.1 this.2
    by_cases c : x1 = 0
    · rw [if_pos c]
      exact main _ (fun a a1 _ => nS a a1) rfl (fun h => absurd c h) (fun _ => nS _ (by omega))
    · rw [if_neg c, zn_pos (by omega)]
      exact main _ (fun a a1 a2 => by funext j; rw [zst_na a2, nS a a1]) (by funext j; rw [zst_na (by omega)]) (fun _ => zst_eq) (fun h => absurd h c)
/-- a sheet forgotten -/
theorem zShI.fg {R R' : Int → Int} {v v' : zHp} {a0 : Nat} (h : zShI R v a0) (h1 : v' a0 12 = 0) (h2 : ∀ j : Int, j ≠ 0 → j ≠ 12 → v' a0 j = v a0 j) (h3 : ∀ a : Nat, a0 < a → a ≤ a0 + 14 → v' a = v a) : zShI R' v' a0 := by
  obtain ⟨P, E, m, al, ps, ⟨p1, p2, p3⟩, i2, i3, i4, i5, i6, i7⟩ := h
  refine ⟨P, E, 0, al, ps, ⟨by rw [h2 9 (by decide) (by decide)]; exact p1, by rw [h2 10 (by decide) (by decide)]; exact p2, p3⟩, ?_, i3, h1, by decide, by rw [h2 13 (by decide) (by decide)]; exact i6, fun w hw hb => ?_⟩
  · unfold zCdC
    rw [h3 P (by omega) (by omega), h3 (P + 1) (by omega) (by omega), h3 (P + 2) (by omega) (by omega)]
    exact i2
  · rw [Nat.zero_testBit] at hb
    exact absurd hb (by decide)
/-- the reference: are the clocks the same -/
theorem l111 {v : zHp} : fX12_rules_L111 zFU v 1 5 = some (v, if v 139 5 = v 140 5 ∧ v 139 6 = v 140 6 ∧ v 139 7 = v 140 7 then 1 else 0) := by
  have off : ∀ (d fu k : Nat), k + d = 8 → d < fu → fX12_rules_L111 fu v 0 (k : Int) = some (v, 0) := by
    intro d
    induction d with
    | zero =>
      intro fu k h1 h2
      obtain ⟨f, rfl⟩ : ∃ f, fu = f + 1 := ⟨fu - 1, by omega⟩
      rw [fX12_rules_L111.eq_2, if_pos (by omega)]
    | succ d ih =>
      intro fu k h1 h2
      obtain ⟨f, rfl⟩ : ∃ f, fu = f + 1 := ⟨fu - 1, by omega⟩
      rw [fX12_rules_L111.eq_2, if_neg (by omega), if_pos rfl, zn_pos (by omega), show (k : Int) + 1 = ((k + 1 : Nat) : Int) by omega]
      exact ih f (k + 1) (by omega) (by omega)
  rw [show zFU = 999996 + 1 + 1 + 1 + 1 from rfl, fX12_rules_L111.eq_2, if_neg (by decide), if_neg n10, zck_pos (by decide), zck_pos (by decide)]
  by_cases c5 : v 139 5 = v 140 5
  · rw [if_neg (fun g => g c5), zn_pos (by decide), show (5 : Int) + 1 = 6 from rfl, fX12_rules_L111.eq_2, if_neg (by decide), if_neg n10, zck_pos (by decide), zck_pos (by decide)]
    by_cases c6 : v 139 6 = v 140 6
    · rw [if_neg (fun g => g c6), zn_pos (by decide), show (6 : Int) + 1 = 7 from rfl, fX12_rules_L111.eq_2, if_neg (by decide), if_neg n10, zck_pos (by decide), zck_pos (by decide)]
      by_cases c7 : v 139 7 = v 140 7
      · rw [if_neg (fun g => g c7), zn_pos (by decide), show (7 : Int) + 1 = 8 from rfl, fX12_rules_L111.eq_2, if_pos (by decide), if_pos ⟨c5, c6, c7⟩]
      · rw [if_pos c7, zn_pos (by decide), show (7 : Int) + 1 = ((8 : Nat) : Int) from rfl, off 0 _ 8 rfl (by omega), if_neg (fun g => c7 g.2.2)]
    · rw [if_pos c6, zn_pos (by decide), show (6 : Int) + 1 = ((7 : Nat) : Int) from rfl, off 1 _ 7 rfl (by omega), if_neg (fun g => c6 g.2.1)]
  · rw [if_pos c5, zn_pos (by decide), show (5 : Int) + 1 = ((6 : Nat) : Int) from rfl, off 2 _ 6 rfl (by omega), if_neg (fun g => c5 g.1)]
/-- the reference's cards emptied -/
theorem l158_L : ∀ (d fu k : Nat) (v : zHp), k + d = 4 → d < fu → (∀ w : Nat, w < k → v 141 (w : Int) = 0) → ∃ v', fX12_rules_L158 fu v 0 (k : Int) = some (v', 0) ∧ (∀ w : Nat, w < 4 → v' 141 (w : Int) = 0) ∧ ∀ a, a ≠ 141 → v' a = v a
  | 0, fu, k, v, e1, e2, e3 => by
    obtain ⟨f, rfl⟩ : ∃ f, fu = f + 1 := ⟨fu - 1, by omega⟩
    refine ⟨v, ?_, fun w hw => e3 w (by omega), fun a _ => rfl⟩
    rw [fX12_rules_L158.eq_2, if_pos (by omega)]
  | d + 1, fu, k, v, e1, e2, e3 => by
    obtain ⟨f, rfl⟩ : ∃ f, fu = f + 1 := ⟨fu - 1, by omega⟩
    have na : ∀ a, a ≠ 141 → zst v 141 (k : Int) 0 a = v a := fun a ha => by funext j; exact zst_na ha
    obtain ⟨v', g1, g2, g3⟩ := l158_L d f (k + 1) (zst v 141 (k : Int) 0) (by omega) (by omega) (fun w hw => by
      rw [zst_if]
      by_cases c : w = k
      · rw [if_pos (by omega)]
      · rw [if_neg (by omega)]
        exact e3 w (by omega))
    refine ⟨v', ?_, g2, fun a ha => by rw [g3 a ha, na a ha]⟩
    rw [fX12_rules_L158.eq_2, if_neg (by omega), if_neg (fun g => g rfl), zck_pos (by omega), zb_e, zn_pos (by omega), show (k : Int) + 1 = ((k + 1 : Nat) : Int) by omega]
    exact g1
