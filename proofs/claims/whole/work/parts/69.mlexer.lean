/-! PURE: the signs fed, cut into tokens; the reference. My own text. -/
theorem m_byteAt {B : Nat → Int} {N : Nat} (hN : N ≤ 400) {v : zHp} (h3 : v 137 3 = (N : Int)) (hB : ∀ j : Nat, j < N → zand (v 138 (j : Int)) 255 = B j) (p : Nat) : fX12_byteAt v (p : Int) = some (v, if p < N then B p else -1) := by
  unfold fX12_byteAt
  rw [h3]
  by_cases c : p < N
  · rw [if_neg (by omega), zck_pos (by omega), if_pos c, hB p c]
  · rw [if_pos (by omega), if_neg c]
theorem mskip_L {B : Nat → Int} {N : Nat} (hN : N ≤ 400) : ∀ (d fu p : Nat) (v : zHp), p + d = N → d < fu → v 137 3 = (N : Int) → v 137 5 = (p : Int) → (∀ j : Nat, j < N → zand (v 138 (j : Int)) 255 = B j) → ∃ v', fX12_go_L0 fu v = some (v', 0) ∧ v' 137 5 = ((xRun xWs B d p : Nat) : Int) ∧ (∀ j, j ≠ 5 → v' 137 j = v 137 j) ∧ ∀ a, a ≠ 137 → v' a = v a
  | 0, fu, p, v, h1, h2, h3, h4, h5 => by
    obtain ⟨f, rfl⟩ : ∃ f, fu = f + 1 := ⟨fu - 1, by omega⟩
    refine ⟨v, ?_, h4, fun j _ => rfl, fun a _ => rfl⟩
    rw [fX12_go_L0.eq_2, h4, m_byteAt hN h3 h5 p, zcl_e, if_neg (by omega : ¬ p < N), if_neg (by decide), h4, m_byteAt hN h3 h5 p, zcl_e, if_neg (by omega : ¬ p < N), if_pos (by decide)]
  | d + 1, fu, p, v, h1, h2, h3, h4, h5 => by
    obtain ⟨f, rfl⟩ : ∃ f, fu = f + 1 := ⟨fu - 1, by omega⟩
    rw [fX12_go_L0.eq_2, h4, m_byteAt hN h3 h5 p, zcl_e, if_pos (by omega : p < N), h4, m_byteAt hN h3 h5 p, zcl_e, if_pos (by omega : p < N)]
    unfold xRun
    by_cases c : xWs (B p) = true
    · have na : ∀ a, a ≠ 137 → zst v 137 5 ((p + 1 : Nat) : Int) a = v a := fun a ha => by funext j; exact zst_na ha
      obtain ⟨v', g1, g2, g3, g4⟩ := mskip_L (B := B) hN d f (p + 1) (zst v 137 5 ((p + 1 : Nat) : Int)) (by omega) (by omega) (by rw [zst_nj (by decide)]; exact h3) zst_eq (by rw [na 138 (by decide)]; exact h5)
      refine ⟨v', ?_, by rw [if_pos c]; exact g2, fun j hj => by rw [g3 j hj, zst_nj hj], fun a ha => by rw [g4 a ha, na a ha]⟩
      have hj : fX12_go_J26 (fX12_go_L0 f) v = some (v', 0) := by
        unfold fX12_go_J26
        rw [h4, zn_pos (by omega), zb_e, show (p : Int) + 1 = ((p + 1 : Nat) : Int) by omega]
        exact g1
      rcases xWs_iff.mp c with e | e
      · rw [if_pos e]
        exact hj
      · rw [if_neg (by omega), if_neg (by omega)]
        exact hj
    · have hc : ¬ (B p = 32 ∨ B p = 10) := fun h => c (xWs_iff.mpr h)
      rw [if_neg (by omega), if_pos (by omega)]
      exact ⟨v, rfl, by rw [if_neg c]; exact h4, fun j _ => rfl, fun a _ => rfl⟩
theorem mlet_L {B : Nat → Int} {N : Nat} (hN : N ≤ 400) : ∀ (d fu p : Nat) (v : zHp), p + d = N → d < fu → v 137 3 = (N : Int) → v 137 5 = (p : Int) → (∀ j : Nat, j < N → zand (v 138 (j : Int)) 255 = B j) → ∃ v', fX12_go_L79 fu v = some (v', 0) ∧ v' 137 5 = ((xRun xLt B d p : Nat) : Int) ∧ (∀ j, j ≠ 5 → v' 137 j = v 137 j) ∧ ∀ a, a ≠ 137 → v' a = v a
  | 0, fu, p, v, h1, h2, h3, h4, h5 => by
    obtain ⟨f, rfl⟩ : ∃ f, fu = f + 1 := ⟨fu - 1, by omega⟩
    refine ⟨v, ?_, h4, fun j _ => rfl, fun a _ => rfl⟩
    rw [fX12_go_L79.eq_2, h4, m_byteAt hN h3 h5 p, zcl_e, if_neg (by omega : ¬ p < N), m_within, zcl_e, if_pos (by decide)]
  | d + 1, fu, p, v, h1, h2, h3, h4, h5 => by
    obtain ⟨f, rfl⟩ : ∃ f, fu = f + 1 := ⟨fu - 1, by omega⟩
    rw [fX12_go_L79.eq_2, h4, m_byteAt hN h3 h5 p, zcl_e, if_pos (by omega : p < N), m_within, zcl_e, h4]
    unfold xRun
    by_cases c : xLt (B p) = true
    · have na : ∀ a, a ≠ 137 → zst v 137 5 ((p + 1 : Nat) : Int) a = v a := fun a ha => by funext j; exact zst_na ha
      obtain ⟨v', g1, g2, g3, g4⟩ := mlet_L (B := B) hN d f (p + 1) (zst v 137 5 ((p + 1 : Nat) : Int)) (by omega) (by omega) (by rw [zst_nj (by decide)]; exact h3) zst_eq (by rw [na 138 (by decide)]; exact h5)
      refine ⟨v', ?_, by rw [if_pos c]; exact g2, fun j hj => by rw [g3 j hj, zst_nj hj], fun a ha => by rw [g4 a ha, na a ha]⟩
      rw [if_pos (xLt_iff.mp c), if_neg n10, zn_pos (by omega), zb_e, show (p : Int) + 1 = ((p + 1 : Nat) : Int) by omega]
      exact g1
    · rw [if_neg (fun h => c (xLt_iff.mpr h)), if_pos z00]
      exact ⟨v, rfl, by rw [if_neg c]; exact h4, fun j _ => rfl, fun a _ => rfl⟩
theorem xVal_s {B : Nat → Int} {s p : Nat} (hp : s ≤ p) : xVal B s (p + 1) = if 4 ≤ p - s then 99999 else 10 * xVal B s p + B p - 48 := by
  unfold xVal
  by_cases c : 4 ≤ p - s
  · rw [if_pos c, if_neg (by omega)]
  · rw [if_neg c, if_pos (by omega), if_pos (by omega), show p + 1 - s = (p - s) + 1 by omega]
    show 10 * xNum B s (p - s) + B (s + (p - s)) - 48 = _
    rw [show s + (p - s) = p by omega]
theorem mdig_L {B : Nat → Int} {N s : Nat} (hN : N ≤ 400) : ∀ (d fu p : Nat) (v : zHp), p + d = N → d < fu → v 137 3 = (N : Int) → v 137 5 = (p : Int) → v 137 4 = (s : Int) → s ≤ p → v 137 7 = xVal B s p → (∀ i : Nat, s ≤ i → i < p → xDg (B i) = true) → (∀ j : Nat, j < N → zand (v 138 (j : Int)) 255 = B j) → ∃ v', fX12_go_L134 fu v = some (v', 0) ∧ v' 137 5 = ((xRun xDg B d p : Nat) : Int) ∧ v' 137 7 = xVal B s (xRun xDg B d p) ∧ (∀ j, j ≠ 5 → j ≠ 7 → v' 137 j = v 137 j) ∧ ∀ a, a ≠ 137 → v' a = v a
  | 0, fu, p, v, h1, h2, h3, h4, h6, h7, h8, h9, h5 => by
    obtain ⟨f, rfl⟩ : ∃ f, fu = f + 1 := ⟨fu - 1, by omega⟩
    refine ⟨v, ?_, h4, h8, fun j _ _ => rfl, fun a _ => rfl⟩
    rw [fX12_go_L134.eq_2, h4, m_byteAt hN h3 h5 p, zcl_e, if_neg (by omega : ¬ p < N), m_within, zcl_e, if_pos (by decide)]
  | d + 1, fu, p, v, h1, h2, h3, h4, h6, h7, h8, h9, h5 => by
    obtain ⟨f, rfl⟩ : ∃ f, fu = f + 1 := ⟨fu - 1, by omega⟩
    rw [fX12_go_L134.eq_2, h4, m_byteAt hN h3 h5 p, zcl_e, if_pos (by omega : p < N), m_within, zcl_e, h4, h6, h8, m_byteAt hN h3 h5 p, zcl_e, if_pos (by omega : p < N)]
    unfold xRun
    by_cases c : xDg (B p) = true
    · have hb := xDg_iff.mp c
      have hnum := xNum_b (B := B) (s := s) (p - s) fun i hi => h9 (s + i) (by omega) (by omega)
      have step : ∀ x : Int, x = xVal B s (p + 1) → ∃ v', fX12_go_J190 (fX12_go_L134 f) v x = some (v', 0) ∧ v' 137 5 = ((xRun xDg B d (p + 1) : Nat) : Int) ∧ v' 137 7 = xVal B s (xRun xDg B d (p + 1)) ∧ (∀ j, j ≠ 5 → j ≠ 7 → v' 137 j = v 137 j) ∧ ∀ a, a ≠ 137 → v' a = v a := fun x hx => by
        have na : ∀ a, a ≠ 137 → zst (zst v 137 7 x) 137 5 ((p + 1 : Nat) : Int) a = v a := fun a ha => by funext j; rw [zst_na ha, zst_na ha]
        obtain ⟨v', g1, g2, g3, g4, g5⟩ := mdig_L (B := B) (s := s) hN d f (p + 1) (zst (zst v 137 7 x) 137 5 ((p + 1 : Nat) : Int)) (by omega) (by omega) (by rw [zst_nj (by decide), zst_nj (by decide)]; exact h3) zst_eq (by rw [zst_nj (by decide), zst_nj (by decide)]; exact h6) (by omega) (by rw [zst_nj (by decide), zst_eq]; exact hx) (fun i a b => by
          by_cases e : i = p
          · rw [e]; exact c
          · exact h9 i a (by omega)) (by rw [na 138 (by decide)]; exact h5)
        refine ⟨v', ?_, g2, g3, fun j a b => by rw [g4 j a b, zst_nj a, zst_nj b], fun a ha => by rw [g5 a ha, na a ha]⟩
        unfold fX12_go_J190
        rw [zb_e, zst_nj (by decide), h4, zn_pos (by omega), zb_e, show (p : Int) + 1 = ((p + 1 : Nat) : Int) by omega]
        exact g1
      rw [if_pos hb, if_neg n10, if_pos c, zn_pos (by omega)]
      by_cases g : 4 ≤ p - s
      · rw [if_pos (by omega)]
        exact step _ (by rw [xVal_s h7, if_pos g])
      · have e1 : xVal B s p = xNum B s (p - s) := if_pos (by omega)
        rw [if_neg (by omega), e1, zn_pos (by omega)]
        exact step _ (by rw [xVal_s h7, if_neg g, e1])
    · rw [if_neg (fun h => c (xDg_iff.mpr h)), if_pos z00]
      exact ⟨v, rfl, by rw [if_neg c]; exact h4, by rw [if_neg c]; exact h8, fun j _ _ => rfl, fun a _ => rfl⟩
theorem m_go {B : Nat → Int} {N e : Nat} (hN : N ≤ 400) {v : zHp} (h3 : v 137 3 = (N : Int)) (h5 : v 137 5 = (e : Int)) (he : e ≤ N) (hB : ∀ j : Nat, j < N → zand (v 138 (j : Int)) 255 = B j) (hb0 : ∀ j : Nat, j < N → 0 ≤ B j) : ∃ v', fX12_go v = some (v', 0) ∧ v' 137 6 = xSr B N (xSt B N e) ∧ v' 137 4 = ((xSt B N e : Nat) : Int) ∧ v' 137 5 = ((xEn B N (xSt B N e) : Nat) : Int) ∧ (xSr B N (xSt B N e) = 2 → v' 137 7 = xVal B (xSt B N e) (xEn B N (xSt B N e))) ∧ (∀ j, j ≠ 4 → j ≠ 5 → j ≠ 6 → j ≠ 7 → v' 137 j = v 137 j) ∧ ∀ a, a ≠ 137 → v' a = v a := by
  obtain ⟨u, g1, g2, g3, g4⟩ := mskip_L (B := B) hN (N - e) zFU e v (by omega) (zFU_lt (by omega)) h3 h5 hB
  have hs := xRun_b (P := xWs) (B := B) (N - e) e
  have eS : xRun xWs B (N - e) e = xSt B N e := rfl
  rw [eS] at g2 hs
  generalize xSt B N e = s at g2 hs ⊢
  have na : ∀ a, a ≠ 137 → zst u 137 4 (s : Int) a = v a := fun a ha => by funext j; rw [zst_na ha, g4 a ha]
  have nj : ∀ j, j ≠ 4 → zst u 137 4 (s : Int) 137 j = u 137 j := fun j hj => zst_nj hj
  have t4 : zst u 137 4 (s : Int) 137 4 = (s : Int) := zst_eq
  have t5 : zst u 137 4 (s : Int) 137 5 = (s : Int) := by rw [nj 5 (by decide)]; exact g2
  have t3 : zst u 137 4 (s : Int) 137 3 = (N : Int) := by rw [nj 3 (by decide), g3 3 (by decide)]; exact h3
  have tj : ∀ j, j ≠ 4 → j ≠ 5 → zst u 137 4 (s : Int) 137 j = v 137 j := fun j a b => by rw [nj j a, g3 j b]
  have tB : ∀ j : Nat, j < N → zand (zst u 137 4 (s : Int) 138 (j : Int)) 255 = B j := by rw [na 138 (by decide)]; exact hB
  unfold fX12_go
  rw [g1, zl_e, g2, zb_e]
  generalize zst u 137 4 (s : Int) = w at na nj t4 t5 t3 tj tB ⊢
  rw [t5, m_byteAt hN t3 tB s, zcl_e]
  unfold xSr xEn
  by_cases c : s < N
  · have hp := hb0 s c
    rw [if_pos c, if_pos c, if_pos c, if_pos hp, m_within, zcl_e]
    by_cases c2 : xLt (B s) = true
    · have c1 : ¬ B s = 59 := fun h => by have := xLt_iff.mp c2; omega
      obtain ⟨x, q1, q2, q3, q4⟩ := mlet_L (B := B) hN (N - s) zFU s w (by omega) (zFU_lt (by omega)) t3 t5 tB
      have eR : xRun xLt B (N - s) s = xRun xLt B (N - (s + 1)) (s + 1) := by
        rw [show N - s = (N - (s + 1)) + 1 by omega]
        exact if_pos c2
      rw [eR] at q2
      rw [if_pos (xLt_iff.mp c2), if_neg n10, q1, zl_e, zb_e, if_neg c1, if_pos c2, if_pos c2]
      exact ⟨_, rfl, zst_eq, by rw [zst_nj (by decide), q3 4 (by decide)]; exact t4, by rw [zst_nj (by decide)]; exact q2, fun h => absurd h (by decide), fun j a b d _ => by rw [zst_nj d, q3 j b, tj j a b], fun a ha => by funext j; rw [zst_na ha, q4 a ha, na a ha]⟩
    · rw [if_neg (fun h => c2 (xLt_iff.mpr h)), if_pos z00, m_within, zcl_e]
      by_cases c3 : xDg (B s) = true
      · have c1 : ¬ B s = 59 := fun h => by have := xDg_iff.mp c3; omega
        have wn : ∀ a, a ≠ 137 → zst w 137 7 0 a = v a := fun a ha => by funext j; rw [zst_na ha, na a ha]
        obtain ⟨x, q1, q2, q3, q4, q5⟩ := mdig_L (B := B) (s := s) hN (N - s) zFU s (zst w 137 7 0) (by omega) (zFU_lt (by omega)) (by rw [zst_nj (by decide)]; exact t3) (by rw [zst_nj (by decide)]; exact t5) (by rw [zst_nj (by decide)]; exact t4) (Nat.le_refl _) (by
          rw [zst_eq]
          unfold xVal
          rw [if_pos (by omega), Nat.sub_self]
          rfl) (fun i a b => absurd b (by omega)) (by rw [wn 138 (by decide)]; exact hB)
        have eR : xRun xDg B (N - s) s = xRun xDg B (N - (s + 1)) (s + 1) := by
          rw [show N - s = (N - (s + 1)) + 1 by omega]
          exact if_pos c3
        rw [eR] at q2 q3
        rw [if_pos (xDg_iff.mp c3), if_neg n10, zb_e, q1, zl_e, zb_e, if_neg c1, if_neg c2, if_pos c3, if_neg c2, if_pos c3]
        exact ⟨_, rfl, zst_eq, by rw [zst_nj (by decide), q4 4 (by decide) (by decide), zst_nj (by decide)]; exact t4, by rw [zst_nj (by decide)]; exact q2, fun _ => by rw [zst_nj (by decide)]; exact q3, fun j a b d f => by rw [zst_nj d, q4 j b f, zst_nj f, tj j a b], fun a ha => by funext j; rw [zst_na ha, q5 a ha, wn a ha]⟩
      · rw [if_neg (fun h => c3 (xDg_iff.mpr h)), if_pos z00, t5, zn_pos (by omega), zb_e, if_neg c2, if_neg c3, if_neg c2, if_neg c3, show (s : Int) + 1 = ((s + 1 : Nat) : Int) by omega]
        by_cases c1 : B s = 59
        · rw [if_neg (fun h => h c1), zb_e, if_pos c1]
          exact ⟨_, rfl, zst_eq, by rw [zst_nj (by decide), zst_nj (by decide)]; exact t4, by rw [zst_nj (by decide), zst_eq], fun h => absurd h (by decide), fun j a b d _ => by rw [zst_nj d, zst_nj b, tj j a b], fun a ha => by funext j; rw [zst_na ha, zst_na ha, na a ha]⟩
        · rw [if_pos c1, zb_e, if_neg c1]
          exact ⟨_, rfl, zst_eq, by rw [zst_nj (by decide), zst_nj (by decide)]; exact t4, by rw [zst_nj (by decide), zst_eq], fun h => absurd h (by decide), fun j a b d _ => by rw [zst_nj d, zst_nj b, tj j a b], fun a ha => by funext j; rw [zst_na ha, zst_na ha, na a ha]⟩
  · rw [if_neg c, if_neg c, if_neg c, if_neg (by decide), zb_e]
    exact ⟨_, rfl, zst_eq, by rw [zst_nj (by decide)]; exact t4, by rw [zst_nj (by decide), t5]; omega, fun h => absurd h (by decide), fun j a b d _ => by rw [zst_nj d, tj j a b], fun a ha => by funext j; rw [zst_na ha, na a ha]⟩
