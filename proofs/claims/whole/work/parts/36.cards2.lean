/-! PURE: the cards, both sides: taken out, copied; what can be taken back. My own text. -/
theorem rem_L {c n : Nat} (hn : n < 60) : ∀ (d fu x : Nat) (v : zHp), x + d = n → d < fu → v c 2 = (n : Int) → ∃ v', fX1_removeAt_L25 fu v c (x : Int) = some (v', 0) ∧ (∀ j : Int, v' (c + 1) j = if (x : Int) ≤ j ∧ j < (n : Int) then v (c + 1) (j + 1) else v (c + 1) j) ∧ (∀ j : Int, v' (c + 2) j = if (x : Int) ≤ j ∧ j < (n : Int) then v (c + 2) (j + 1) else v (c + 2) j) ∧ ∀ a, a ≠ c + 1 → a ≠ c + 2 → v' a = v a
  | 0, fu, x, v, h1, h2, h3 => by
    obtain ⟨k, rfl⟩ : ∃ k, fu = k + 1 := ⟨fu - 1, by omega⟩
    refine ⟨v, ?_, fun j => ?_, fun j => ?_, fun a _ _ => rfl⟩
    · rw [fX1_removeAt_L25.eq_2, if_pos (by omega)]
    · rw [if_neg (by omega)]
    · rw [if_neg (by omega)]
  | d + 1, fu, x, v, h1, h2, h3 => by
    obtain ⟨k, rfl⟩ : ∃ k, fu = k + 1 := ⟨fu - 1, by omega⟩
    rw [fX1_removeAt_L25.eq_2, if_neg (by omega), zck_pos (by omega), zck_pos (by omega), zb_e, zck_pos (by omega), zck_pos (by omega), zb_e, zn_pos (by omega), show (x : Int) + 1 = ((x + 1 : Nat) : Int) by omega]
    have r1 : ∀ j : Int, zst (zst v (c + 1) (x : Int) (v (c + 1) ((x + 1 : Nat) : Int))) (c + 2) (x : Int) (zst v (c + 1) (x : Int) (v (c + 1) ((x + 1 : Nat) : Int)) (c + 2) ((x + 1 : Nat) : Int)) (c + 1) j = if j = (x : Int) then v (c + 1) ((x + 1 : Nat) : Int) else v (c + 1) j := fun j => by rw [zst_na (by omega), zst_if]
    have r2 : ∀ j : Int, zst (zst v (c + 1) (x : Int) (v (c + 1) ((x + 1 : Nat) : Int))) (c + 2) (x : Int) (zst v (c + 1) (x : Int) (v (c + 1) ((x + 1 : Nat) : Int)) (c + 2) ((x + 1 : Nat) : Int)) (c + 2) j = if j = (x : Int) then v (c + 2) ((x + 1 : Nat) : Int) else v (c + 2) j := fun j => by rw [zst_if, zst_na (by omega), zst_na (by omega)]
    obtain ⟨v', g1, g2, g3, g4⟩ := rem_L (c := c) hn d k (x + 1) (zst (zst v (c + 1) (x : Int) (v (c + 1) ((x + 1 : Nat) : Int))) (c + 2) (x : Int) (zst v (c + 1) (x : Int) (v (c + 1) ((x + 1 : Nat) : Int)) (c + 2) ((x + 1 : Nat) : Int))) (by omega) (by omega) (by rw [zst_na (by omega), zst_na (by omega)]; exact h3)
    refine ⟨v', g1, fun j => ?_, fun j => ?_, fun a h5 h6 => ?_⟩
    · rw [g2 j, r1, r1]
      by_cases h5 : ((x + 1 : Nat) : Int) ≤ j ∧ j < (n : Int)
      · rw [if_pos h5, if_neg (by omega), if_pos (by omega)]
      · rw [if_neg h5]
        by_cases h6 : j = (x : Int)
        · rw [if_pos h6, if_pos (by omega), h6]
          rfl
        · rw [if_neg h6, if_neg (by omega)]
    · rw [g3 j, r2, r2]
      by_cases h5 : ((x + 1 : Nat) : Int) ≤ j ∧ j < (n : Int)
      · rw [if_pos h5, if_neg (by omega), if_pos (by omega)]
      · rw [if_neg h5]
        by_cases h6 : j = (x : Int)
        · rw [if_pos h6, if_pos (by omega), h6]
          rfl
        · rw [if_neg h6, if_neg (by omega)]
    · rw [g4 a h5 h6]
      funext j
      rw [zst_na h6, zst_na h5]
theorem c_removeAt {c : Nat} {cd : List zP2} {v : zHp} {p : Nat} (hc : zCdC v c cd) (hp : p < cd.length) (hl : cd.length ≤ 60) : ∃ v', fX1_removeAt v c (p : Int) = some (v', 0) ∧ zCdC v' c (cd.eraseIdx p) ∧ ∀ a, a ≠ c → a ≠ c + 1 → a ≠ c + 2 → v' a = v a := by
  obtain ⟨hs, hv⟩ := hc
  obtain ⟨v', g1, g2, g3, g4⟩ := rem_L (c := c) (n := cd.length - 1) (by omega) (cd.length - 1 - p) zFU p (zst v c 2 ((cd.length : Int) - 1)) (by omega) (zFU_lt (by omega)) (by rw [zst_eq]; omega)
  refine ⟨v', ?_, ⟨?_, fun i hi => ?_⟩, fun a h1 h2 h3 => ?_⟩
  · unfold fX1_removeAt
    rw [if_neg (by omega), hs, if_pos (by omega), zn_pos (by omega), zb_e, g1]
    rfl
  · rw [g4 c (by omega) (by omega), zst_eq, del_len hp]
    omega
  · rw [del_len hp] at hi
    rw [g2, g3, del_get, zst_na (by omega), zst_na (by omega), zst_na (by omega), zst_na (by omega)]
    by_cases h1 : i < p
    · have n1 : ¬ ((p : Int) ≤ (i : Int) ∧ (i : Int) < ((cd.length - 1 : Nat) : Int)) := by omega
      simp only [if_neg n1, if_pos h1]
      exact hv i (by omega)
    · have n1 : (p : Int) ≤ (i : Int) ∧ (i : Int) < ((cd.length - 1 : Nat) : Int) := by omega
      simp only [if_pos n1, if_neg h1]
      exact hv (i + 1) (by omega)
  · rw [g4 a h2 h3]
    funext j
    exact zst_na h1
/-- the reference's -/
theorem leaves_L {w n p : Nat} {m : Int} (hw : w < 4) (hn : n < 60) : ∀ (d fu x : Nat) (v : zHp), x + d = n → d < fu → v 141 (w : Int) = (n : Int) → (∀ j : Nat, x ≤ j → j < p → v 142 (61 * (w : Int) + (j : Int)) < m) → (∀ j : Nat, x ≤ j → p ≤ j → j < n → m ≤ v 142 (61 * (w : Int) + (j : Int))) → ∃ v', fX12_leaves_L12 fu v (w : Int) m (x : Int) = some (v', 0) ∧ (∀ j : Int, v' 142 j = if 61 * (w : Int) + (x : Int) ≤ j ∧ 61 * (w : Int) + (p : Int) ≤ j ∧ j < 61 * (w : Int) + (n : Int) then v 142 (j + 1) else v 142 j) ∧ (∀ j : Int, v' 143 j = if 61 * (w : Int) + (x : Int) ≤ j ∧ 61 * (w : Int) + (p : Int) ≤ j ∧ j < 61 * (w : Int) + (n : Int) then v 143 (j + 1) else v 143 j) ∧ ∀ a, a ≠ 142 → a ≠ 143 → v' a = v a
  | 0, fu, x, v, h1, h2, h3, h4, h5 => by
    obtain ⟨k, rfl⟩ : ∃ k, fu = k + 1 := ⟨fu - 1, by omega⟩
    refine ⟨v, ?_, fun j => ?_, fun j => ?_, fun a _ _ => rfl⟩
    · rw [fX12_leaves_L12.eq_2, zck_pos (by omega), if_pos (by omega)]
    · rw [if_neg (by omega)]
    · rw [if_neg (by omega)]
  | d + 1, fu, x, v, h1, h2, h3, h4, h5 => by
    obtain ⟨k, rfl⟩ : ∃ k, fu = k + 1 := ⟨fu - 1, by omega⟩
    rw [fX12_leaves_L12.eq_2, zck_pos (by omega), if_neg (by omega), zck_pos (by omega)]
    by_cases hp : x < p
    · have h6 := h4 x (by omega) hp
      rw [if_pos h6, zn_pos (by omega), show (x : Int) + 1 = ((x + 1 : Nat) : Int) by omega]
      obtain ⟨v', g1, g2, g3, g4⟩ := leaves_L (p := p) hw hn d k (x + 1) v (by omega) (by omega) h3 (fun j a b => h4 j (by omega) b) (fun j a b c => h5 j (by omega) b c)
      refine ⟨v', g1, fun j => ?_, fun j => ?_, g4⟩
      · rw [g2 j]
        by_cases h7 : 61 * (w : Int) + ((x + 1 : Nat) : Int) ≤ j ∧ 61 * (w : Int) + (p : Int) ≤ j ∧ j < 61 * (w : Int) + (n : Int)
        · rw [if_pos h7, if_pos (by omega)]
        · rw [if_neg h7, if_neg (by omega)]
      · rw [g3 j]
        by_cases h7 : 61 * (w : Int) + ((x + 1 : Nat) : Int) ≤ j ∧ 61 * (w : Int) + (p : Int) ≤ j ∧ j < 61 * (w : Int) + (n : Int)
        · rw [if_pos h7, if_pos (by omega)]
        · rw [if_neg h7, if_neg (by omega)]
    · have h6 := h5 x (by omega) (by omega) (by omega)
      rw [if_neg (by omega), zck_pos (by omega), zck_pos (by omega), zb_e, zck_pos (by omega), zck_pos (by omega), zb_e, zn_pos (by omega), show (x : Int) + 1 = ((x + 1 : Nat) : Int) by omega]
      have r1 : ∀ j : Int, zst (zst v 142 (61 * (w : Int) + (x : Int)) (v 142 (61 * (w : Int) + (x : Int) + 1))) 143 (61 * (w : Int) + (x : Int)) (zst v 142 (61 * (w : Int) + (x : Int)) (v 142 (61 * (w : Int) + (x : Int) + 1)) 143 (61 * (w : Int) + (x : Int) + 1)) 142 j = if j = 61 * (w : Int) + (x : Int) then v 142 (61 * (w : Int) + (x : Int) + 1) else v 142 j := fun j => by rw [zst_na (by decide), zst_if]
      have r2 : ∀ j : Int, zst (zst v 142 (61 * (w : Int) + (x : Int)) (v 142 (61 * (w : Int) + (x : Int) + 1))) 143 (61 * (w : Int) + (x : Int)) (zst v 142 (61 * (w : Int) + (x : Int)) (v 142 (61 * (w : Int) + (x : Int) + 1)) 143 (61 * (w : Int) + (x : Int) + 1)) 143 j = if j = 61 * (w : Int) + (x : Int) then v 143 (61 * (w : Int) + (x : Int) + 1) else v 143 j := fun j => by rw [zst_if, zst_na (by decide), zst_na (by decide)]
      obtain ⟨v', g1, g2, g3, g4⟩ := leaves_L (p := p) hw hn d k (x + 1) (zst (zst v 142 (61 * (w : Int) + (x : Int)) (v 142 (61 * (w : Int) + (x : Int) + 1))) 143 (61 * (w : Int) + (x : Int)) (zst v 142 (61 * (w : Int) + (x : Int)) (v 142 (61 * (w : Int) + (x : Int) + 1)) 143 (61 * (w : Int) + (x : Int) + 1))) (by omega) (by omega) (by rw [zst_na (by decide), zst_na (by decide)]; exact h3) (fun j a b => by omega) (fun j a b c => by rw [r1, if_neg (by omega)]; exact h5 j (by omega) b c)
      refine ⟨v', g1, fun j => ?_, fun j => ?_, fun a h7 h8 => ?_⟩
      · rw [g2 j, r1, r1]
        by_cases h7 : 61 * (w : Int) + ((x + 1 : Nat) : Int) ≤ j ∧ 61 * (w : Int) + (p : Int) ≤ j ∧ j < 61 * (w : Int) + (n : Int)
        · rw [if_pos h7, if_neg (by omega), if_pos (by omega)]
        · rw [if_neg h7]
          by_cases h8 : j = 61 * (w : Int) + (x : Int)
          · rw [if_pos h8, if_pos (by omega), h8]
          · rw [if_neg h8, if_neg (by omega)]
      · rw [g3 j, r2, r2]
        by_cases h7 : 61 * (w : Int) + ((x + 1 : Nat) : Int) ≤ j ∧ 61 * (w : Int) + (p : Int) ≤ j ∧ j < 61 * (w : Int) + (n : Int)
        · rw [if_pos h7, if_neg (by omega), if_pos (by omega)]
        · rw [if_neg h7]
          by_cases h8 : j = 61 * (w : Int) + (x : Int)
          · rw [if_pos h8, if_pos (by omega), h8]
          · rw [if_neg h8, if_neg (by omega)]
      · rw [g4 a h7 h8]
        funext j
        rw [zst_na h8, zst_na h7]
theorem m_leaves {w : Nat} {cd : List zP2} {v : zHp} {m : Int} {p : Nat} (hw : w < 4) (hc : zCdM v (w : Int) cd) (hi : zInc cd) (hp : p < cd.length) (hm : (cd.getD p zp0).1 = m) (hl : cd.length ≤ 60) : ∃ v', fX12_leaves v (w : Int) m = some (v', 0) ∧ zCdM v' (w : Int) (cd.eraseIdx p) ∧ (∀ a, a ≠ 141 → a ≠ 142 → a ≠ 143 → v' a = v a) ∧ ∀ (x : Nat) (cx : List zP2), x ≠ w → cx.length ≤ 60 → zCdM v (x : Int) cx → zCdM v' (x : Int) cx := by
  obtain ⟨hs, hv⟩ := hc
  obtain ⟨v', g1, g2, g3, g4⟩ := leaves_L (w := w) (n := cd.length - 1) (p := p) (m := m) hw (by omega) (cd.length - 1) zFU 0 (zst v 141 (w : Int) ((cd.length : Int) - 1)) (by omega) (zFU_lt (by omega)) (by rw [zst_eq]; omega) (fun j _ h => by
    rw [zst_na (by decide), (hv j (by omega)).1, ← hm]
    exact hi j p h hp) (fun j _ h1 h2 => by
    rw [zst_na (by decide), (hv j (by omega)).1, ← hm]
    by_cases h3 : j = p
    · rw [h3]
      omega
    · exact Int.le_of_lt (hi p j (by omega) (by omega)))
  refine ⟨v', ?_, ⟨?_, fun i hi => ?_⟩, fun a h1 h2 h3 => ?_, fun x cx h1 h2 h3 => ⟨?_, fun i hi => ?_⟩⟩
  · unfold fX12_leaves
    rw [zck_pos (by omega), hs, zn_pos (by omega), zck_pos (by omega), zb_e, show (0 : Int) = ((0 : Nat) : Int) from rfl, g1]
    rfl
  · rw [g4 141 (by decide) (by decide), zst_eq, del_len hp]
    omega
  · rw [del_len hp] at hi
    rw [g2, g3, del_get, zst_na (by omega), zst_na (by omega), zst_na (by omega), zst_na (by omega)]
    by_cases h1 : i < p
    · have n1 : ¬ (61 * (w : Int) + ((0 : Nat) : Int) ≤ 61 * (w : Int) + (i : Int) ∧ 61 * (w : Int) + (p : Int) ≤ 61 * (w : Int) + (i : Int) ∧ 61 * (w : Int) + (i : Int) < 61 * (w : Int) + ((cd.length - 1 : Nat) : Int)) := by omega
      simp only [if_neg n1, if_pos h1]
      exact hv i (by omega)
    · have n1 : 61 * (w : Int) + ((0 : Nat) : Int) ≤ 61 * (w : Int) + (i : Int) ∧ 61 * (w : Int) + (p : Int) ≤ 61 * (w : Int) + (i : Int) ∧ 61 * (w : Int) + (i : Int) < 61 * (w : Int) + ((cd.length - 1 : Nat) : Int) := by omega
      simp only [if_pos n1, if_neg h1]
      rw [show 61 * (w : Int) + (i : Int) + 1 = 61 * (w : Int) + ((i + 1 : Nat) : Int) by omega]
      exact hv (i + 1) (by omega)
  · rw [g4 a h2 h3]
    funext j
    exact zst_na h1
  · rw [g4 141 (by decide) (by decide), zst_nj (by omega)]
    exact h3.1
  · rw [g2, g3, zst_na (by decide), zst_na (by decide), zst_na (by decide), zst_na (by decide)]
    have n1 : ¬ (61 * (w : Int) + ((0 : Nat) : Int) ≤ 61 * (x : Int) + (i : Int) ∧ 61 * (w : Int) + (p : Int) ≤ 61 * (x : Int) + (i : Int) ∧ 61 * (x : Int) + (i : Int) < 61 * (w : Int) + ((cd.length - 1 : Nat) : Int)) := by omega
    simp only [if_neg n1]
    exact h3.2 i hi
/-! copied -/
theorem copy_L {c c2 n : Nat} (hn : n ≤ 60) (hcc : c + 2 < c2 ∨ c2 + 2 < c) : ∀ (d fu x : Nat) (v : zHp), x + d = n → d < fu → v c 2 = (n : Int) → ∃ v', fX1_copy_L10 fu v c c2 (x : Int) = some (v', 0) ∧ (∀ j : Int, v' (c + 1) j = if (x : Int) ≤ j ∧ j < (n : Int) then v (c2 + 1) j else v (c + 1) j) ∧ (∀ j : Int, v' (c + 2) j = if (x : Int) ≤ j ∧ j < (n : Int) then v (c2 + 2) j else v (c + 2) j) ∧ ∀ a, a ≠ c + 1 → a ≠ c + 2 → v' a = v a
  | 0, fu, x, v, h1, h2, h3 => by
    obtain ⟨k, rfl⟩ : ∃ k, fu = k + 1 := ⟨fu - 1, by omega⟩
    refine ⟨v, ?_, fun j => ?_, fun j => ?_, fun a _ _ => rfl⟩
    · rw [fX1_copy_L10.eq_2, if_pos (by omega)]
    · rw [if_neg (by omega)]
    · rw [if_neg (by omega)]
  | d + 1, fu, x, v, h1, h2, h3 => by
    obtain ⟨k, rfl⟩ : ∃ k, fu = k + 1 := ⟨fu - 1, by omega⟩
    rw [fX1_copy_L10.eq_2, if_neg (by omega), zck_pos (by omega), zck_pos (by omega), zb_e, zck_pos (by omega), zck_pos (by omega), zb_e, zn_pos (by omega), show (x : Int) + 1 = ((x + 1 : Nat) : Int) by omega, zst_na (by omega : c2 + 2 ≠ c + 1)]
    have r1 : ∀ j : Int, zst (zst v (c + 1) (x : Int) (v (c2 + 1) (x : Int))) (c + 2) (x : Int) (v (c2 + 2) (x : Int)) (c + 1) j = if j = (x : Int) then v (c2 + 1) (x : Int) else v (c + 1) j := fun j => by rw [zst_na (by omega), zst_if]
    have r2 : ∀ j : Int, zst (zst v (c + 1) (x : Int) (v (c2 + 1) (x : Int))) (c + 2) (x : Int) (v (c2 + 2) (x : Int)) (c + 2) j = if j = (x : Int) then v (c2 + 2) (x : Int) else v (c + 2) j := fun j => by rw [zst_if, zst_na (by omega)]
    have r3 : ∀ a, a ≠ c + 1 → a ≠ c + 2 → zst (zst v (c + 1) (x : Int) (v (c2 + 1) (x : Int))) (c + 2) (x : Int) (v (c2 + 2) (x : Int)) a = v a := fun a h5 h6 => by
      funext j
      rw [zst_na h6, zst_na h5]
    obtain ⟨v', g1, g2, g3, g4⟩ := copy_L (c := c) hn hcc d k (x + 1) (zst (zst v (c + 1) (x : Int) (v (c2 + 1) (x : Int))) (c + 2) (x : Int) (v (c2 + 2) (x : Int))) (by omega) (by omega) (by rw [r3 c (by omega) (by omega)]; exact h3)
    refine ⟨v', g1, fun j => ?_, fun j => ?_, fun a h5 h6 => ?_⟩
    · rw [g2 j, r1, r3 (c2 + 1) (by omega) (by omega)]
      by_cases h5 : ((x + 1 : Nat) : Int) ≤ j ∧ j < (n : Int)
      · rw [if_pos h5, if_pos (by omega)]
      · rw [if_neg h5]
        by_cases h6 : j = (x : Int)
        · rw [if_pos h6, if_pos (by omega), h6]
        · rw [if_neg h6, if_neg (by omega)]
    · rw [g3 j, r2, r3 (c2 + 2) (by omega) (by omega)]
      by_cases h5 : ((x + 1 : Nat) : Int) ≤ j ∧ j < (n : Int)
      · rw [if_pos h5, if_pos (by omega)]
      · rw [if_neg h5]
        by_cases h6 : j = (x : Int)
        · rw [if_pos h6, if_pos (by omega), h6]
        · rw [if_neg h6, if_neg (by omega)]
    · rw [g4 a h5 h6]
      exact r3 a h5 h6
theorem c_copy {c c2 : Nat} {cd : List zP2} {v : zHp} (hcc : c + 2 < c2 ∨ c2 + 2 < c) (hc : zCdC v c2 cd) (hl : cd.length ≤ 60) : ∃ v', fX1_copy v c c2 = some (v', 0) ∧ zCdC v' c cd ∧ ∀ a, a ≠ c → a ≠ c + 1 → a ≠ c + 2 → v' a = v a := by
  obtain ⟨hs, hv⟩ := hc
  obtain ⟨v', g1, g2, g3, g4⟩ := copy_L (c := c) (c2 := c2) (n := cd.length) hl hcc cd.length zFU 0 (zst v c 2 (cd.length : Int)) (by omega) (zFU_lt (by omega)) zst_eq
  refine ⟨v', ?_, ⟨?_, fun i hi => ?_⟩, fun a h1 h2 h3 => ?_⟩
  · unfold fX1_copy
    rw [hs, zb_e, show (0 : Int) = ((0 : Nat) : Int) from rfl, g1]
    rfl
  · rw [g4 c (by omega) (by omega), zst_eq]
  · have n1 : ((0 : Nat) : Int) ≤ (i : Int) ∧ (i : Int) < (cd.length : Int) := by omega
    rw [g2, g3, if_pos n1, if_pos n1, zst_na (by omega), zst_na (by omega)]
    exact hv i hi
  · rw [g4 a h2 h3]
    funext j
    exact zst_na h1
