/-! PURE: dearest: both sides. My own text. -/
def yAb (wk : Int) : Int := if wk = 0 then 0 else 672 * wk - 8
theorem m_about {v : zHp} {wk : Int} (h : 0 ≤ wk ∧ wk ≤ 3) : fX12_about v wk = some (v, yAb wk) := by
  unfold fX12_about yAb
  by_cases c : wk = 0
  · rw [if_neg (fun h => h c), if_pos c]
  · rw [if_pos c, if_neg c, zn_pos (by omega)]
theorem yAb_b {wk : Int} (h : 0 ≤ wk ∧ wk ≤ 3) : 0 ≤ yAb wk ∧ yAb wk ≤ 2008 := by
  unfold yAb
  split <;> omega
/-- what is kept of weeks -/
def zKp (R : Int → Int) (v : zHp) : Prop := ∀ t : Nat, t < 8 → v 159 (t : Int) = 0 ∨ (v 159 (t : Int) = 1 ∧ ∃ ps : List zP2, (∀ k : Nat, k < 690 → v 157 (690 * (t : Int) + (k : Int)) = if zWd ps (yAb ((t % 4 : Nat) : Int) + (k : Int)) then 1 else 0) ∧ v 158 (t : Int) = yWs R 255 ps ((t % 4 : Nat) : Int))
theorem yWs_same {R : Int → Int} (hR : zWk R) {ps pt : List zP2} {wk : Int} (hwk : 0 ≤ wk ∧ wk ≤ 3) (h : ∀ k : Nat, k < 690 → zWd ps (yAb wk + (k : Int)) = zWd pt (yAb wk + (k : Int))) : yWs R 255 ps wk = yWs R 255 pt wk := by
  have eD : zD R ps wk = zD R pt wk := by
    funext q
    unfold zD
    by_cases c : zQA R (7 * wk) ≤ q ∧ q < zQA R (7 * wk + 7)
    · have z0 := zQA_mono (R := R) (show 0 ≤ 7 * wk by omega)
      rw [zQA_0 hR] at z0
      have z1 := @zQA_b R (7 * wk)
      have z2 := @zQA_b R (7 * wk + 7)
      have e : q = yAb wk + (((q - yAb wk).toNat : Nat) : Int) ∧ (q - yAb wk).toNat < 690 := by
        unfold yAb
        split <;> omega
      have := h _ e.2
      rw [← e.1] at this
      rw [this]
    · have : (decide (zQA R (7 * wk) ≤ q) && decide (q < zQA R (7 * wk + 7))) = false := by
        rw [Bool.and_eq_false_iff, decide_eq_false_iff_not, decide_eq_false_iff_not]
        omega
      rw [this, Bool.and_false, Bool.and_false]
  unfold yWs
  rw [eD]
theorem kept_L {v : zHp} {t : Nat} (ht : t < 8) {wk : Int} (hwk : 0 ≤ wk ∧ wk ≤ 3) {ps pt : List zP2} (h1 : ∀ k : Nat, k < 690 → v 157 (690 * (t : Int) + (k : Int)) = if zWd pt (yAb wk + (k : Int)) then 1 else 0) (h2 : ∀ x : Int, 0 ≤ x → x < 2720 → v 148 x = if zWd ps x then 1 else 0) : ∀ (d fu k : Nat), k + d = 690 → d < fu → (∀ j : Nat, j < k → zWd pt (yAb wk + (j : Int)) = zWd ps (yAb wk + (j : Int))) → ∃ r : Int, fX12_isAsKept_L10 fu v (t : Int) wk 1 (k : Int) = some (v, r) ∧ (r = 0 ∨ r = 1) ∧ (r ≠ 0 → ∀ j : Nat, j < 690 → zWd pt (yAb wk + (j : Int)) = zWd ps (yAb wk + (j : Int)))
  | 0, fu, k, e1, e2, e3 => by
    obtain ⟨f, rfl⟩ : ∃ f, fu = f + 1 := ⟨fu - 1, by omega⟩
    refine ⟨1, ?_, Or.inr rfl, fun _ j hj => e3 j (by omega)⟩
    rw [fX12_isAsKept_L10.eq_2, if_pos (by omega)]
  | d + 1, fu, k, e1, e2, e3 => by
    obtain ⟨f, rfl⟩ : ∃ f, fu = f + 1 := ⟨fu - 1, by omega⟩
    have hb := yAb_b hwk
    have f1 := h1 k (by omega)
    have f2 := h2 (yAb wk + (k : Int)) (by omega) (by omega)
    rw [fX12_isAsKept_L10.eq_2, if_neg (by omega), if_neg n10, zck_pos (by omega), m_about hwk, zcl_e, zck_pos (by omega), f1, f2, zn_pos (by omega), zn_pos (by omega), show (k : Int) + 1 = ((k + 1 : Nat) : Int) by omega]
    by_cases c : zWd pt (yAb wk + (k : Int)) = zWd ps (yAb wk + (k : Int))
    · rw [c, if_neg (fun h => h rfl)]
      exact kept_L ht hwk h1 h2 d f (k + 1) (by omega) (by omega) fun j hj => by
        by_cases e : j = k
        · rw [e]; exact c
        · exact e3 j (by omega)
    · have hne : (if zWd pt (yAb wk + (k : Int)) = true then (1 : Int) else 0) ≠ (if zWd ps (yAb wk + (k : Int)) = true then 1 else 0) := by
        cases ha : zWd pt (yAb wk + (k : Int)) <;> cases hb : zWd ps (yAb wk + (k : Int))
        · rw [ha, hb] at c
          exact absurd rfl c
        · decide
        · decide
        · rw [ha, hb] at c
          exact absurd rfl c
      rw [if_pos hne]
      refine ⟨0, ?_, Or.inl rfl, fun h => absurd rfl h⟩
      obtain ⟨f', rfl⟩ : ∃ f', f = f' + 1 := ⟨f - 1, by omega⟩
      rw [fX12_isAsKept_L10.eq_2]
      by_cases g : 690 ≤ ((k + 1 : Nat) : Int)
      · rw [if_pos g]
      · rw [if_neg g, if_pos rfl]
theorem as_kept {R : Int → Int} (hR : zWk R) {v : zHp} (hk : zKp R v) {t wk : Nat} (ht : t < 8) (hwk : wk < 4) (htw : t % 4 = wk) {ps : List zP2} (h2 : ∀ x : Int, 0 ≤ x → x < 2720 → v 148 x = if zWd ps x then 1 else 0) : ∃ r : Int, fX12_isAsKept v (t : Int) (wk : Int) = some (v, r) ∧ (r ≠ 0 → v 158 (t : Int) = yWs R 255 ps (wk : Int)) := by
  unfold fX12_isAsKept
  rw [zck_pos (by omega)]
  rcases hk t ht with h | ⟨h, pt, h3, h4⟩
  · refine ⟨0, ?_, fun h => absurd rfl h⟩
    rw [h, show zFU = 999999 + 1 from rfl, fX12_isAsKept_L10.eq_2, if_neg (by decide), if_pos rfl, zl_e, zck_pos (by decide)]
  · rw [htw] at h3 h4
    obtain ⟨r, g1, g2, g3⟩ := kept_L ht (wk := (wk : Int)) (by omega) h3 h2 690 zFU 0 rfl (zFU_lt (by decide)) (fun j hj => absurd hj (Nat.not_lt_zero _))
    rw [show ((0 : Nat) : Int) = 0 from rfl] at g1
    refine ⟨r, ?_, fun hr => ?_⟩
    · rw [h, g1, zl_e, zck_pos g2]
    · rw [h4]
      exact yWs_same hR (by omega) (g3 hr)
theorem kcopy_L {t wk : Nat} (ht : t < 8) (hwk : wk < 4) {ps : List zP2} : ∀ (d fu k : Nat) (v : zHp), k + d = 690 → d < fu → (∀ x : Int, 0 ≤ x → x < 2720 → v 148 x = if zWd ps x then 1 else 0) → (∀ j : Nat, j < k → v 157 (690 * (t : Int) + (j : Int)) = if zWd ps (yAb (wk : Int) + (j : Int)) then 1 else 0) → ∃ v', fX12_weekSum_L65 fu v (wk : Int) (t : Int) (k : Int) = some (v', 0) ∧ (∀ j : Nat, j < 690 → v' 157 (690 * (t : Int) + (j : Int)) = if zWd ps (yAb (wk : Int) + (j : Int)) then 1 else 0) ∧ (∀ j : Int, (j < 690 * (t : Int) ∨ 690 * (t : Int) + 690 ≤ j) → v' 157 j = v 157 j) ∧ ∀ a, a ≠ 157 → v' a = v a
  | 0, fu, k, v, e1, e2, e3, e4 => by
    obtain ⟨f, rfl⟩ : ∃ f, fu = f + 1 := ⟨fu - 1, by omega⟩
    refine ⟨v, ?_, fun j hj => e4 j (by omega), fun j _ => rfl, fun a _ => rfl⟩
    rw [fX12_weekSum_L65.eq_2, if_pos (by omega)]
  | d + 1, fu, k, v, e1, e2, e3, e4 => by
    obtain ⟨f, rfl⟩ : ∃ f, fu = f + 1 := ⟨fu - 1, by omega⟩
    have hb := yAb_b (wk := (wk : Int)) (by omega)
    have f2 := e3 (yAb (wk : Int) + (k : Int)) (by omega) (by omega)
    have na : ∀ a, a ≠ 157 → zst v 157 (690 * (t : Int) + (k : Int)) (v 148 (yAb (wk : Int) + (k : Int))) a = v a := fun a ha => by funext j; exact zst_na ha
    obtain ⟨v', g1, g2, g3, g4⟩ := kcopy_L (ps := ps) ht hwk d f (k + 1) (zst v 157 (690 * (t : Int) + (k : Int)) (v 148 (yAb (wk : Int) + (k : Int)))) (by omega) (by omega) (by rw [na 148 (by decide)]; exact e3) (fun j hj => by
      rw [zst_if]
      by_cases c : j = k
      · rw [if_pos (by omega), f2, c]
      · rw [if_neg (by omega)]
        exact e4 j (by omega))
    refine ⟨v', ?_, g2, fun j hj => by rw [g3 j hj, zst_nj (by omega)], fun a ha => by rw [g4 a ha, na a ha]⟩
    rw [fX12_weekSum_L65.eq_2, if_neg (by omega), m_about (by omega), zcl_e, zck_pos (by omega), zck_pos (by omega), zck_pos (by rw [f2]; split <;> decide), zb_e, zn_pos (by omega), show (k : Int) + 1 = ((k + 1 : Nat) : Int) by omega]
    exact g1
/-- a week's sum, kept or laid -/
theorem m_weekSum {R : Int → Int} (hR : zWR R) {ps : List zP2} (hps : zPok R ps) {v : zHp} (h3 : v 139 = R) (h4 : ∀ x : Int, 0 ≤ x → x < 2720 → v 148 x = if zWd ps x then 1 else 0) (hk : zKp R v) {wk : Nat} (hwk : wk < 4) : ∃ v', fX12_weekSum v (wk : Int) = some (v', yWs R 255 ps (wk : Int)) ∧ zKp R v' ∧ (∀ a, a ≠ 149 → a ≠ 150 → a ≠ 137 → a ≠ 154 → a ≠ 155 → a ≠ 156 → a ≠ 157 → a ≠ 158 → a ≠ 159 → v' a = v a) ∧ ∀ j, j ≠ 23 → v' 137 j = v 137 j := by
  obtain ⟨r0, a1, a2⟩ := as_kept hR.1 hk (t := wk) (wk := wk) (by omega) hwk (by omega) h4
  obtain ⟨r1, b1, b2⟩ := as_kept hR.1 hk (t := 4 + wk) (wk := wk) (by omega) hwk (by omega) h4
  rw [show ((4 + wk : Nat) : Int) = 4 + (wk : Int) by omega] at b1 b2
  have hbw := yWs_b hR (al := 255) (ps := ps) (wk := (wk : Int)) (by omega)
  have eL : fX12_weekSum_L2 zFU v (wk : Int) 0 = if r0 ≠ 0 then some (.inl (v, v 158 (wk : Int))) else if r1 ≠ 0 then some (.inl (v, v 158 (4 + (wk : Int)))) else some (.inr (v, 0)) := by
    rw [show zFU = 999997 + 1 + 1 + 1 from rfl, fX12_weekSum_L2.eq_2, if_neg (by decide), show 4 * (0 : Int) + (wk : Int) = (wk : Int) by omega, zn_pos (by omega), a1, zcl_e, zck_pos (by omega)]
    by_cases c : r0 = 0
    · rw [if_pos c, if_neg (fun h => h c), zn_pos (by decide), show (0 : Int) + 1 = 1 from rfl, fX12_weekSum_L2.eq_2, if_neg (by decide), show 4 * (1 : Int) + (wk : Int) = 4 + (wk : Int) by omega, zn_pos (by omega), b1, zcl_e, zck_pos (by omega)]
      by_cases d : r1 = 0
      · rw [if_pos d, if_neg (fun h => h d), zn_pos (by decide), show (1 : Int) + 1 = 2 from rfl, fX12_weekSum_L2.eq_2, if_pos (by decide)]
      · rw [if_neg d, if_pos d]
    · rw [if_neg c, if_pos c]
  unfold fX12_weekSum
  rw [eL]
  by_cases c : r0 = 0
  · rw [if_neg (fun h => h c)]
    by_cases d : r1 = 0
    · rw [if_neg (fun h => h d), zlf_e]
      obtain ⟨u, x, g1, g2, g3, g4, g5⟩ := m_weekIs hR hps h3 h4 (wk := (wk : Int)) (by omega)
      have hkx : zKp R x := fun t ht => by
        rw [g4 159 (by decide) (by decide) (by decide) (by decide) (by decide) (by decide), g4 157 (by decide) (by decide) (by decide) (by decide) (by decide) (by decide), g4 158 (by decide) (by decide) (by decide) (by decide) (by decide) (by decide)]
        exact hk t ht
      have hx4 : ∀ y : Int, 0 ≤ y → y < 2720 → x 148 y = if zWd ps y then 1 else 0 := by
        rw [g4 148 (by decide) (by decide) (by decide) (by decide) (by decide) (by decide)]
        exact h4
      have put : ∀ t : Nat, t < 8 → t % 4 = wk → ∃ v', fX12_weekSum_J62 x (wk : Int) (t : Int) = some (v', yWs R 255 ps (wk : Int)) ∧ zKp R v' ∧ (∀ a, a ≠ 149 → a ≠ 150 → a ≠ 137 → a ≠ 154 → a ≠ 155 → a ≠ 156 → a ≠ 157 → a ≠ 158 → a ≠ 159 → v' a = v a) ∧ ∀ j, j ≠ 23 → v' 137 j = v 137 j := fun t ht htw => by
        obtain ⟨y, q1, q2, q3, q4⟩ := kcopy_L ht hwk (ps := ps) 690 zFU 0 x rfl (zFU_lt (by decide)) hx4 (fun j hj => absurd hj (Nat.not_lt_zero _))
        rw [show ((0 : Nat) : Int) = 0 from rfl] at q1
        refine ⟨zst (zst y 158 (t : Int) (yWs R 255 ps (wk : Int))) 159 (t : Int) 1, ?_, fun s hs => ?_, fun a a1 a2 a3 a4 a5 a6 a7 a8 a9 => by funext j; rw [zst_na a9, zst_na a8, q4 a a7, g4 a a1 a2 a3 a4 a5 a6], fun j hj => by rw [zst_na (by decide), zst_na (by decide), q4 137 (by decide), g5 j hj]⟩
        · unfold fX12_weekSum_J62 fX12_weekSum_J123
          rw [q1, zl_e, zck_pos (by decide), zck_pos (by omega), zck_pos (by omega), zb_e, zb_e, zck_pos (by omega), zck_pos (by omega), zb_e, zb_e, zck_pos (by omega), zck_pos (by omega), q4 137 (by decide), q4 154 (by decide)]
          rw [← g3]
          by_cases e : x 137 23 = 0
          · rw [if_neg (fun h => h e), if_neg (fun h => h e), zst_na (by decide), zst_eq]
          · rw [if_pos e, if_pos e, zst_na (by decide), zst_eq]
        · by_cases e : s = t
          · refine Or.inr ⟨by rw [e, zst_eq], ps, fun k hk => ?_, ?_⟩
            · rw [zst_na (by decide), zst_na (by decide), e, htw]
              exact q2 k hk
            · rw [zst_na (by decide), e, zst_eq, htw]
          · have hne : ¬ (s : Int) = (t : Int) := by omega
            rw [zst_nj hne, zst_na (by decide), q4 159 (by decide), zst_na (by decide), zst_nj hne, q4 158 (by decide)]
            rcases hkx s hs with h | ⟨h, pt, h5, h6⟩
            · exact Or.inl h
            · refine Or.inr ⟨h, pt, fun k hk => ?_, h6⟩
              rw [zst_na (by decide), zst_na (by decide), q3 _ (by omega)]
              exact h5 k hk
      rw [g1, zcl_e, g2, zcl_e, zck_pos (by omega), zn_pos (by omega)]
      by_cases e : x 159 (wk : Int) = 0
      · rw [if_pos e]
        exact put wk (by omega) (by omega)
      · rw [if_neg e]
        have := put (4 + wk) (by omega) (by omega)
        rw [show ((4 + wk : Nat) : Int) = 4 + (wk : Int) by omega] at this
        exact this
    · rw [if_pos d, zlf_i, b2 d]
      exact ⟨v, rfl, hk, fun a _ _ _ _ _ _ _ _ _ => rfl, fun j _ => rfl⟩
  · rw [if_pos c, zlf_i, a2 c]
    exact ⟨v, rfl, hk, fun a _ _ _ _ _ _ _ _ _ => rfl, fun j _ => rfl⟩
theorem payKept_L {R : Int → Int} (hR : zWR R) {ps : List zP2} (hps : zPok R ps) : ∀ (d fu k : Nat) (v : zHp), k + d = 4 → d < fu → v 139 = R → (∀ x : Int, 0 ≤ x → x < 2720 → v 148 x = if zWd ps x then 1 else 0) → zKp R v → ∃ v', fX12_payKept_L9 fu v (yPy R 255 ps k) (k : Int) = some (v', yPy R 255 ps 4) ∧ zKp R v' ∧ (∀ a, a ≠ 149 → a ≠ 150 → a ≠ 137 → a ≠ 154 → a ≠ 155 → a ≠ 156 → a ≠ 157 → a ≠ 158 → a ≠ 159 → v' a = v a) ∧ ∀ j, j ≠ 23 → v' 137 j = v 137 j
  | 0, fu, k, v, h1, h2, h3, h4, h5 => by
    obtain ⟨f, rfl⟩ : ∃ f, fu = f + 1 := ⟨fu - 1, by omega⟩
    refine ⟨v, ?_, h5, fun a _ _ _ _ _ _ _ _ _ => rfl, fun j _ => rfl⟩
    rw [fX12_payKept_L9.eq_2, if_pos (by omega), show k = 4 by omega]
  | d + 1, fu, k, v, h1, h2, h3, h4, h5 => by
    obtain ⟨f, rfl⟩ : ∃ f, fu = f + 1 := ⟨fu - 1, by omega⟩
    obtain ⟨u, a1, a2, a3, a4⟩ := m_weekSum hR hps h3 h4 h5 (wk := k) (by omega)
    have b1 := yPy_b hR (al := 255) (ps := ps) k (by omega)
    have b2 := yWs_b hR (al := 255) (ps := ps) (wk := (k : Int)) (by omega)
    have q1 := @zQA_b R (7 * (k : Int))
    have q2 := @zQA_b R (7 * (k : Int) + 7)
    obtain ⟨v', g0, g1, g2, g3⟩ := payKept_L hR hps d f (k + 1) u (by omega) (by omega) (by rw [a3 139 (by decide) (by decide) (by decide) (by decide) (by decide) (by decide) (by decide) (by decide) (by decide)]; exact h3) (by rw [a3 148 (by decide) (by decide) (by decide) (by decide) (by decide) (by decide) (by decide) (by decide) (by decide)]; exact h4) a2
    refine ⟨v', ?_, g1, fun a b1 b2 b3 b4 b5 b6 b7 b8 b9 => by rw [g2 a b1 b2 b3 b4 b5 b6 b7 b8 b9, a3 a b1 b2 b3 b4 b5 b6 b7 b8 b9], fun j hj => by rw [g3 j hj, a4 j hj]⟩
    have eP : yPy R 255 ps (k + 1) = yPy R 255 ps k + yWs R 255 ps (k : Int) := rfl
    rw [← g0, eP, fX12_payKept_L9.eq_2, if_neg (by omega), a1, zcl_e, zn_pos (by omega), zn_pos (by omega), show (k : Int) + 1 = ((k + 1 : Nat) : Int) by omega]
theorem m_payKept {w : Nat} {cd : List zP2} {v : zHp} {R : Int → Int} (hw : w < 4) (h3 : v 139 = R) (hR : zWR R) (hok : zCdOk R cd) (hc : zCdM v (w : Int) cd) (hk : zKp R v) : ∃ v', fX12_payKept v (w : Int) = some (v', yPw R 255 (zPcs R cd)) ∧ zMP v v' ∧ zKp R v' := by
  subst h3
  obtain ⟨u1, a1, a2, a3, a4, a5⟩ := m_laysWorked hw hR hok hc
  have r1 : u1 139 = v 139 := a4 139 (by decide) (by decide) (by decide) (by decide) (by decide)
  have hk1 : zKp (v 139) u1 := fun t ht => by
    rw [a4 159 (by decide) (by decide) (by decide) (by decide) (by decide), a4 157 (by decide) (by decide) (by decide) (by decide) (by decide), a4 158 (by decide) (by decide) (by decide) (by decide) (by decide)]
    exact hk t ht
  obtain ⟨u2, b0, b1, b2, b3⟩ := payKept_L hR (zPcs_ok hR hok).1 4 zFU 0 u1 rfl (zFU_lt (by decide)) r1 a3 hk1
  rw [show yPy (v 139) 255 (zPcs (v 139) cd) 0 = 0 from rfl, show ((0 : Nat) : Int) = 0 from rfl] at b0
  have hb := yPw_b hR (al := 255) (ps := zPcs (v 139) cd)
  refine ⟨u2, ?_, zMP.mk' (fun a ha => by rw [b2 a (by omega) (by omega) (by omega) (by omega) (by omega) (by omega) (by omega) (by omega) (by omega), a4 a (by omega) (by omega) (by omega) (by omega) (by omega)]) (fun j hj => by rw [b3 j (by omega), a5 j (by omega)]), b1⟩
  unfold fX12_payKept
  rw [a1, zcl_e, b0, zl_e, zck_pos (by decide), b2 139 (by decide) (by decide) (by decide) (by decide) (by decide) (by decide) (by decide) (by decide) (by decide), r1]
  unfold yPw at hb ⊢
  rw [zn_pos (by omega)]
theorem mk0_L {x1 x2 x3 x4 x5 : Int} : ∀ (d fu k : Nat) (v : zHp), k + d = 8 → d < fu → (∀ j : Nat, j < k → v 159 (j : Int) = 0) → ∃ v', fX12_dearest_L43 fu v x1 x2 x3 x4 x5 (k : Int) = some (v', 0) ∧ (∀ j : Nat, j < 8 → v' 159 (j : Int) = 0) ∧ ∀ a, a ≠ 159 → v' a = v a
  | 0, fu, k, v, e1, e2, e3 => by
    obtain ⟨f, rfl⟩ : ∃ f, fu = f + 1 := ⟨fu - 1, by omega⟩
    refine ⟨v, ?_, fun j hj => e3 j (by omega), fun a _ => rfl⟩
    rw [fX12_dearest_L43.eq_2, if_pos (by omega)]
  | d + 1, fu, k, v, e1, e2, e3 => by
    obtain ⟨f, rfl⟩ : ∃ f, fu = f + 1 := ⟨fu - 1, by omega⟩
    have na : ∀ a, a ≠ 159 → zst v 159 (k : Int) 0 a = v a := fun a ha => by funext j; exact zst_na ha
    obtain ⟨v', g1, g2, g3⟩ := mk0_L (x1 := x1) (x2 := x2) (x3 := x3) (x4 := x4) (x5 := x5) d f (k + 1) (zst v 159 (k : Int) 0) (by omega) (by omega) (fun j hj => by
      rw [zst_if]
      by_cases c : j = k
      · rw [if_pos (by omega)]
      · rw [if_neg (by omega)]
        exact e3 j (by omega))
    refine ⟨v', ?_, g2, fun a ha => by rw [g3 a ha, na a ha]⟩
    rw [fX12_dearest_L43.eq_2, if_neg (by omega), zck_pos (by omega), zb_e, zn_pos (by omega), show (k : Int) + 1 = ((k + 1 : Nat) : Int) by omega]
    exact g1
/-- both search, step by step -/
theorem dear_LL {R : Int → Int} {ru : Nat} {cs : Nat → List zP2} {hs : List zP4} (hR : zWR R) (hok : ∀ w : Nat, w < 4 → zCdOk R (cs w)) {w : Nat} (hw : w < 4) {k day : Int} : ∀ (d fu fu' n : Nat) (vC vM : zHp) (b g bp : Int), n + d = 96 → d < fu → d < fu' → zIC R ru cs hs vC → zIM R cs hs vM → zKp R vM → ((b = -1 ∧ g = -1) ∨ (0 ≤ b ∧ 0 ≤ g ∧ bp = g)) → ∃ vC' vM' r, fX11_dearest_L9 fu vC (w : Int) k day b bp (15 * (n : Int)) = some (vC', r) ∧ fX12_dearest_L67 fu' vM (w : Int) k day b g (15 * (n : Int)) = some (vM', r) ∧ zIC R ru cs hs vC' ∧ zIM R cs hs vM' ∧ (vC' 1 = vC 1 ∧ vC' 2 = vC 2) ∧ (vM' 138 = vM 138 ∧ vM' 137 2 = vM 137 2)
  | 0, fu, fu', n, vC, vM, b, g, bp, h1, h2, h3, h4, h5, h6, h7 => by
    obtain ⟨f, rfl⟩ : ∃ f, fu = f + 1 := ⟨fu - 1, by omega⟩
    obtain ⟨f', rfl⟩ : ∃ f, fu' = f + 1 := ⟨fu' - 1, by omega⟩
    refine ⟨vC, vM, b, ?_, ?_, h4, h5, ⟨rfl, rfl⟩, rfl, rfl⟩
    · rw [fX11_dearest_L9.eq_2, if_pos (by omega)]
    · rw [fX12_dearest_L67.eq_2, if_pos (by omega)]
  | d + 1, fu, fu', n, vC, vM, b, g, bp, h1, h2, h3, h4, h5, h6, h7 => by
    obtain ⟨f, rfl⟩ : ∃ f, fu = f + 1 := ⟨fu - 1, by omega⟩
    obtain ⟨f', rfl⟩ : ∃ f, fu' = f + 1 := ⟨fu' - 1, by omega⟩
    obtain ⟨r, hr⟩ := zFd_ex (cs w) (zMo R day (15 * (n : Int)) 0)
    have e15 : 15 * (n : Int) + 15 = 15 * ((n + 1 : Nat) : Int) := by omega
    have n14 : ¬ (1440 : Int) ≤ 15 * (n : Int) := by omega
    rw [fX11_dearest_L9.eq_2, if_neg n14, c_free hR h4 hw (hok w hw) k day (15 * (n : Int)) 0 r hr, zcl_e, fX12_dearest_L67.eq_2, if_neg n14, m_momentOf (by rw [h5.1]; exact hR.1), h5.1, zcl_e, m_canCome h5 hw (hok w hw) k _ r hr, zcl_e]
    simp only [e15, zn_pos (show -2147483648 ≤ 15 * ((n + 1 : Nat) : Int) ∧ 15 * ((n + 1 : Nat) : Int) ≤ 2147483647 by omega)]
    by_cases can : zCan (cs w) k (zMo R day (15 * (n : Int)) 0) r
    · obtain ⟨k1, k2, k3, k4⟩ := id can
      rw [if_pos can, if_pos can, if_neg k2, if_neg n10]
      subst k4
      obtain ⟨p, hp⟩ := zPl_ex (hok w hw).2.1 hr
      have hmo : zOk2 R (zMo R day (15 * (n : Int)) 0) k := by
        have := zMo_b hR.1 day (15 * (n : Int)) 0
        exact ⟨by omega, by omega, k1.1, k1.2⟩
      generalize zMo R day (15 * (n : Int)) 0 = mo at *
      obtain ⟨u1, g1, g2, g3, g4⟩ := c_payWith hR h4 hw (hok w hw) hp k3 hmo
      obtain ⟨m2, q1, q2, q3⟩ := m_comesI (k := k) h5 hw hok hp k3
      have hcd := q2.2.2 w hw
      rw [zUp_eq] at hcd
      have hk2 : zKp R m2 := fun t ht => by
        rw [q3 159 (by decide) (by decide) (by decide), q3 157 (by decide) (by decide) (by decide), q3 158 (by decide) (by decide) (by decide)]
        exact h6 t ht
      obtain ⟨m3, y1, y2, y3⟩ := m_payKept hw q2.1 hR (zCdOk_ins (hok w hw) hp k3 hmo) hcd hk2
      obtain ⟨m4, t1, t2, t3⟩ := m_leavesI hw hok hp k3 (q2.mv y2)
      have hk4 : zKp R m4 := fun t ht => by
        rw [t3 159 (by decide) (by decide) (by decide), t3 157 (by decide) (by decide) (by decide), t3 158 (by decide) (by decide) (by decide)]
        exact y3 t ht
      have b2 := yPw_b hR (al := 255) (ps := zPcs R ((cs w).insertIdx p (mo, k)))
      have e138 : m4 138 = vM 138 := by rw [t3 138 (by decide) (by decide) (by decide), y2.1.1, q3 138 (by decide) (by decide) (by decide)]
      have e2 : m4 137 2 = vM 137 2 := by rw [t3 137 (by decide) (by decide) (by decide), y2.2.1, q3 137 (by decide) (by decide) (by decide)]
      rw [g1, zcl_e, q1, zcl_e, y1, zcl_e, t1, zcl_e]
      generalize yPw R 255 (zPcs R ((cs w).insertIdx p (mo, k))) = pay at b2 ⊢
      unfold fX11_dearest_J58 fX12_dearest_J132
      rw [zn_pos (by omega), e15]
      simp only [zn_pos (show -2147483648 ≤ 15 * ((n + 1 : Nat) : Int) ∧ 15 * ((n + 1 : Nat) : Int) ≤ 2147483647 by omega)]
      by_cases c : pay ≤ g
      · have hb : 0 ≤ b ∧ 0 ≤ g ∧ bp = g := by omega
        obtain ⟨vC', vM', r', w1, w2, w3, w4, ⟨w5, w6⟩, w7, w8⟩ := dear_LL (k := k) (day := day) hR hok hw d f f' (n + 1) u1 m4 b g bp (by omega) (by omega) (by omega) g2 t2 hk4 h7
        rw [if_neg (by omega), if_pos (by omega), if_pos c, if_pos c]
        exact ⟨vC', vM', r', w1, w2, w3, w4, ⟨by rw [w5, g3], by rw [w6, g4]⟩, by rw [w7, e138], by rw [w8, e2]⟩
      · obtain ⟨vC', vM', r', w1, w2, w3, w4, ⟨w5, w6⟩, w7, w8⟩ := dear_LL (k := k) (day := day) hR hok hw d f f' (n + 1) u1 m4 (15 * (n : Int)) pay pay (by omega) (by omega) (by omega) g2 t2 hk4 (Or.inr ⟨by omega, b2.1, rfl⟩)
        rw [if_neg c, if_neg c]
        refine ⟨vC', vM', r', ?_, w2, w3, w4, ⟨by rw [w5, g3], by rw [w6, g4]⟩, by rw [w7, e138], by rw [w8, e2]⟩
        by_cases e : b = -1
        · rw [if_pos e]
          exact w1
        · rw [if_neg e, if_neg (by omega)]
          exact w1
    · rw [if_neg can, if_neg can, if_pos (rfl : (-1 : Int) = -1), if_pos z00]
      obtain ⟨vC', vM', r', w1, w2, w3⟩ := dear_LL (k := k) (day := day) hR hok hw d f f' (n + 1) vC vM b g bp (by omega) (by omega) (by omega) h4 h5 h6 h7
      refine ⟨vC', vM', r', ?_, ?_, w3⟩
      · exact w1
      · exact w2
/-- nothing can come: the class finds nothing -/
theorem dear_no {x1 k day : Int} {v : zHp} (h : ∀ m : Int, fX11_freeMoment v x1 k day m 0 = some (v, -1)) : ∀ (d fu n : Nat) (bp : Int), n + d = 96 → d < fu → fX11_dearest_L9 fu v x1 k day (-1) bp (15 * (n : Int)) = some (v, -1)
  | 0, fu, n, bp, h1, h2 => by
    obtain ⟨f, rfl⟩ : ∃ f, fu = f + 1 := ⟨fu - 1, by omega⟩
    rw [fX11_dearest_L9.eq_2, if_pos (by omega)]
  | d + 1, fu, n, bp, h1, h2 => by
    obtain ⟨f, rfl⟩ : ∃ f, fu = f + 1 := ⟨fu - 1, by omega⟩
    rw [fX11_dearest_L9.eq_2, if_neg (by omega), h, zcl_e, if_pos rfl, zn_pos (by omega), show 15 * (n : Int) + 15 = 15 * ((n + 1 : Nat) : Int) by omega]
    exact dear_no h d f (n + 1) bp (by omega) (by omega)
/-- dearest, both sides -/
theorem a_dearest {vC vM : zHp} (hI : zInv vC vM) (x1 x2 x3 : Int) : ∃ vC' vM' r, fX11_dearest vC x1 x2 x3 = some (vC', r) ∧ fX12_dearest vM x1 x2 x3 = some (vM', r) ∧ zInv vC' vM' := by
  obtain ⟨ru, cs, hs, R, hR, hC, hM, hT, hok, hV⟩ := hI
  have hM1 := hM.mv (zMP.thr (v := vM) 0)
  unfold fX11_dearest fX12_dearest
  rw [zb_e, m_isWorker, zcl_e, m_within, zcl_e, m_within, zcl_e]
  have no : (∀ m : Int, fX11_freeMoment vC x1 x2 x3 m 0 = some (vC, -1)) → ∃ vC' vM' r, (zl (fX11_dearest_L9 zFU vC x1 x2 x3 (-1) 0 0) fun v10 w11 => some (v10, w11)) = some (vC', r) ∧ some (zst vM 137 0 0, (-1 : Int)) = some (vM', r) ∧ zInv vC' vM' := fun h => by
    have e := dear_no h 96 zFU 0 0 rfl (zFU_lt (by decide))
    rw [show 15 * ((0 : Nat) : Int) = 0 from rfl] at e
    rw [e, zl_e]
    exact ⟨vC, _, -1, rfl, rfl, zInv_rd hR hM hT hok hV hC rfl rfl (zMP.thr 0)⟩
  by_cases c1 : 0 ≤ x1 ∧ x1 ≤ 3
  · obtain ⟨w, rfl⟩ : ∃ w : Nat, x1 = (w : Int) := ⟨x1.toNat, by omega⟩
    have hw : w < 4 := by omega
    by_cases c2 : 0 ≤ x2 ∧ x2 ≤ 2
    · by_cases c3 : 0 ≤ x3 ∧ x3 ≤ 27
      · rw [if_pos c1, if_neg n10, if_pos c2, if_neg n10, if_pos c3, if_pos p10]
        obtain ⟨m0, a1, a2, a3⟩ := mk0_L (x1 := (w : Int)) (x2 := x2) (x3 := x3) (x4 := -1) (x5 := -1) 8 zFU 0 (zst vM 137 0 0) rfl (zFU_lt (by decide)) (fun j hj => absurd hj (Nat.not_lt_zero _))
        have hM2 : zIM R cs hs m0 := by
          refine hM1.mv (zMP.mk' (fun a ha => a3 a (by omega)) (fun j _ => by rw [a3 137 (by decide)]))
        obtain ⟨vC', vM', r, w1, w2, w3, w4, ⟨w5, w6⟩, w7, w8⟩ := dear_LL (k := x2) (day := x3) hR hok hw 96 zFU zFU 0 vC m0 (-1) (-1) 0 rfl (zFU_lt (by decide)) (zFU_lt (by decide)) hC hM2 (fun t ht => Or.inl (a2 t ht)) (Or.inl ⟨rfl, rfl⟩)
        rw [show 15 * ((0 : Nat) : Int) = 0 from rfl] at w1 w2
        rw [show ((0 : Nat) : Int) = 0 from rfl] at a1
        rw [w1, zl_e, a1, zl_e, w2, zl_e]
        refine ⟨vC', vM', r, rfl, rfl, ru, cs, hs, R, hR, w3, w4, ?_, hok, hV⟩
        unfold zTp
        rw [w7, w8, w5, w6, a3 138 (by decide), a3 137 (by decide), zst_nj (by decide), show zst vM 137 0 0 138 = vM 138 by funext j; exact zst_na (by decide)]
        exact hT
      · rw [if_pos c1, if_neg n10, if_pos c2, if_neg n10, if_neg c3, if_neg n00]
        refine no fun m => ?_
        obtain ⟨r, hr⟩ := zFd_ex (cs w) (zMo R x3 m 0)
        have e : zMo R x3 m 0 = -1 := by
          unfold zMo
          rw [if_pos (by omega)]
        rw [c_free hR hC hw (hok w hw) x2 x3 m 0 r hr, if_neg (fun h => h.2.1 e)]
    · rw [if_pos c1, if_neg n10, if_neg c2, if_pos z00]
      refine no fun m => ?_
      obtain ⟨r, hr⟩ := zFd_ex (cs w) (zMo R x3 m 0)
      rw [c_free hR hC hw (hok w hw) x2 x3 m 0 r hr, if_neg (fun h => c2 h.1)]
  · rw [if_neg c1, if_pos z00]
    exact no fun m => c_free0 (R := R) (ru := ru) (cs := cs) (hs := hs) c1 x2 x3 m 0
