/-! PURE: the cards, both sides: looked for, put in, taken out. My own text. -/
theorem sn_lt {α : Type} {l : List α} {x d : α} {i : Nat} (h : i < l.length) : (l ++ [x]).getD i d = l.getD i d := by
  rw [List.getD_eq_getElem?_getD, List.getD_eq_getElem?_getD, List.getElem?_append_left h]
theorem sn_eq {α : Type} {l : List α} {x d : α} : (l ++ [x]).getD l.length d = x := by
  rw [List.getD_eq_getElem?_getD, List.getElem?_append_right (Nat.le_refl _), Nat.sub_self]
  rfl
theorem sn_len {α : Type} {l : List α} {x : α} : (l ++ [x]).length = l.length + 1 := by simp
theorem ins_len {α : Type} {l : List α} {x : α} {p : Nat} (h : p ≤ l.length) : (l.insertIdx p x).length = l.length + 1 := List.length_insertIdx_of_le_length h x
theorem ins_get {α : Type} {l : List α} {x d : α} {p i : Nat} (h : p ≤ l.length) : (l.insertIdx p x).getD i d = if i < p then l.getD i d else if i = p then x else l.getD (i - 1) d := by
  rw [List.getD_eq_getElem?_getD, List.getElem?_insertIdx]
  by_cases h1 : i < p
  · rw [if_pos h1, if_pos h1, List.getD_eq_getElem?_getD]
  · rw [if_neg h1, if_neg h1]
    by_cases h2 : i = p
    · rw [if_pos h2, if_pos h2, if_pos (by omega)]
      rfl
    · rw [if_neg h2, if_neg h2, List.getD_eq_getElem?_getD]
theorem del_len {α : Type} {l : List α} {p : Nat} (h : p < l.length) : (l.eraseIdx p).length = l.length - 1 := List.length_eraseIdx_of_lt h
theorem del_get {α : Type} {l : List α} {d : α} {p i : Nat} : (l.eraseIdx p).getD i d = if i < p then l.getD i d else l.getD (i + 1) d := by
  rw [List.getD_eq_getElem?_getD, List.getElem?_eraseIdx]
  by_cases h1 : i < p
  · rw [if_pos h1, if_pos h1, List.getD_eq_getElem?_getD]
  · rw [if_neg h1, if_neg h1, List.getD_eq_getElem?_getD]
theorem gd_ext {α : Type} {d : α} {l m : List α} (h1 : l.length = m.length) (h2 : ∀ i, i < l.length → l.getD i d = m.getD i d) : l = m := by
  apply List.ext_getElem? 
  intro i
  by_cases h : i < l.length
  · have h3 := h2 i h
    rw [List.getD_eq_getElem?_getD, List.getD_eq_getElem?_getD] at h3
    rw [List.getElem?_eq_getElem h, List.getElem?_eq_getElem (by omega : i < m.length)] at h3 ⊢
    exact congrArg some h3
  · rw [List.getElem?_eq_none (by omega), List.getElem?_eq_none (by omega)]
theorem del_ins {α : Type} {l : List α} {x : α} {p : Nat} (h : p ≤ l.length) : (l.insertIdx p x).eraseIdx p = l := by
  have e := @ins_len α l x p h
  apply gd_ext (d := x)
  · rw [del_len (by omega), e]
    omega
  · intro i hi
    rw [del_get]
    by_cases h1 : i < p
    · rw [if_pos h1, ins_get h, if_pos h1]
    · rw [if_neg h1, ins_get h, if_neg (by omega), if_neg (by omega)]
      rfl
theorem ins_del {α : Type} {l : List α} {d : α} {p : Nat} (h : p < l.length) : (l.eraseIdx p).insertIdx p (l.getD p d) = l := by
  have e := @del_len α l p h
  apply gd_ext (d := d)
  · rw [ins_len (by omega), e]
    omega
  · intro i hi
    rw [ins_get (by omega)]
    by_cases h1 : i < p
    · rw [if_pos h1, del_get, if_pos h1]
    · rw [if_neg h1]
      by_cases h2 : i = p
      · rw [if_pos h2, h2]
      · rw [if_neg h2, del_get, if_neg (by omega), show i - 1 + 1 = i by omega]
theorem zst_if {v : zHp} {a : Nat} {j x j' : Int} : zst v a j x a j' = if j' = j then x else v a j' := by
  by_cases h : j' = j
  · rw [if_pos h, h, zst_eq]
  · rw [if_neg h, zst_nj h]
abbrev zP2 : Type := Int × Int
abbrev zp0 : zP2 := ((0 : Int), (0 : Int))
/-- the class's card, the reference's card -/
def zCdC (v : zHp) (c : Nat) (cd : List zP2) : Prop := v c 2 = (cd.length : Int) ∧ ∀ i : Nat, i < cd.length → v (c + 1) (i : Int) = (cd.getD i zp0).1 ∧ v (c + 2) (i : Int) = (cd.getD i zp0).2
def zCdM (v : zHp) (w : Int) (cd : List zP2) : Prop := v 141 w = (cd.length : Int) ∧ ∀ i : Nat, i < cd.length → v 142 (61 * w + (i : Int)) = (cd.getD i zp0).1 ∧ v 143 (61 * w + (i : Int)) = (cd.getD i zp0).2
def zInc (cd : List zP2) : Prop := ∀ i j : Nat, i < j → j < cd.length → (cd.getD i zp0).1 < (cd.getD j zp0).1
/-- where a moment is, or -1 -/
def zFd (cd : List zP2) (m r : Int) : Prop := (r = -1 ∧ ∀ i : Nat, i < cd.length → (cd.getD i zp0).1 ≠ m) ∨ ∃ i : Nat, r = (i : Int) ∧ i < cd.length ∧ (cd.getD i zp0).1 = m
/-- where a moment would come -/
def zPl (cd : List zP2) (m : Int) (p : Nat) : Prop := p ≤ cd.length ∧ (∀ i : Nat, i < p → (cd.getD i zp0).1 < m) ∧ ∀ i : Nat, p ≤ i → i < cd.length → m < (cd.getD i zp0).1
theorem zFd_ex (cd : List zP2) (m : Int) : ∃ r, zFd cd m r := by
  by_cases h : ∃ i : Nat, i < cd.length ∧ (cd.getD i zp0).1 = m
  · obtain ⟨i, h1, h2⟩ := h
    exact ⟨i, Or.inr ⟨i, rfl, h1, h2⟩⟩
  · exact ⟨-1, Or.inl ⟨rfl, fun i h1 h2 => h ⟨i, h1, h2⟩⟩⟩
theorem zPl_ex {cd : List zP2} {m : Int} (hi : zInc cd) (hf : zFd cd m (-1)) : ∃ p, zPl cd m p := by
  have hn : ∀ i : Nat, i < cd.length → (cd.getD i zp0).1 ≠ m := by
    rcases hf with ⟨_, h⟩ | ⟨i, h, _⟩
    · exact h
    · omega
  obtain ⟨p, h1, h2⟩ := pk_least (fun k => ∀ i : Nat, k ≤ i → i < cd.length → m < (cd.getD i zp0).1) ⟨cd.length, fun i h1 h2 => by omega⟩
  have hp : p ≤ cd.length := by
    by_cases h : p ≤ cd.length
    · exact h
    · exact absurd (fun i h3 h4 => by omega) (h2 cd.length (by omega))
  refine ⟨p, hp, fun i h3 => ?_, h1⟩
  have h4 := h2 (p - 1) (by omega)
  have h5 : ¬ m < (cd.getD (p - 1) zp0).1 := fun h6 => h4 fun j h7 h8 => by
    by_cases h9 : j = p - 1
    · rw [h9]; exact h6
    · exact h1 j (by omega) h8
  have h6 := hn (p - 1) (by omega)
  by_cases h7 : i = p - 1
  · rw [h7]; omega
  · have h8 := hi i (p - 1) (by omega) (by omega)
    omega
/-! looked for -/
theorem find_L {c : Nat} {cd : List zP2} {v : zHp} {m r : Int} (hc : zCdC v c cd) (hi : zInc cd) (hr : zFd cd m r) (hl : cd.length ≤ 60) : ∀ (d fu i : Nat), i + d = cd.length → d < fu → (∀ j : Nat, j < i → (cd.getD j zp0).1 ≠ m) → zlf (fX1_find_L2 fu v c m (i : Int)) (fun v3 _ => some (v3, (-1))) = some (v, r)
  | 0, fu, i, h1, h2, h3 => by
    obtain ⟨k, rfl⟩ : ∃ k, fu = k + 1 := ⟨fu - 1, by omega⟩
    have hs := hc.1
    rw [fX1_find_L2.eq_2, if_pos (by omega), zlf_e]
    rcases hr with ⟨h, _⟩ | ⟨j, h4, h5, h6⟩
    · rw [h]
    · exact absurd h6 (h3 j (by omega))
  | d + 1, fu, i, h1, h2, h3 => by
    obtain ⟨k, rfl⟩ : ∃ k, fu = k + 1 := ⟨fu - 1, by omega⟩
    have hs := hc.1
    have hv := (hc.2 i (by omega)).1
    rw [fX1_find_L2.eq_2, if_neg (by omega), zck_pos (by omega), hv]
    by_cases h4 : (cd.getD i zp0).1 = m
    · rw [if_neg (by omega), zlf_i]
      rcases hr with ⟨_, h⟩ | ⟨j, h5, h6, h7⟩
      · exact absurd h4 (h i (by omega))
      · have : j = i := by
          rcases Nat.lt_trichotomy i j with h8 | h8 | h8
          · have h9 := hi i j h8 h6
            omega
          · omega
          · have h9 := hi j i h8 (by omega)
            omega
        rw [h5, this]
    · rw [if_pos (by omega), zn_pos (by omega), show (i : Int) + 1 = ((i + 1 : Nat) : Int) by omega]
      exact find_L hc hi hr hl d k (i + 1) (by omega) (by omega) fun j hj => by
        by_cases h5 : j = i
        · rw [h5]; exact h4
        · exact h3 j (by omega)
theorem c_find {c : Nat} {cd : List zP2} {v : zHp} {m r : Int} (hc : zCdC v c cd) (hi : zInc cd) (hr : zFd cd m r) (hl : cd.length ≤ 60) : fX1_find v c m = some (v, r) := find_L hc hi hr hl cd.length zFU 0 (by omega) (zFU_lt (by omega)) fun j hj => by omega
theorem place_L {w : Nat} {cd : List zP2} {v : zHp} {m r : Int} (hw : w < 4) (hc : zCdM v (w : Int) cd) (hi : zInc cd) (hr : zFd cd m r) (hl : cd.length ≤ 60) : ∀ (d fu i : Nat), i + d = cd.length → d < fu → (∀ j : Nat, j < i → (cd.getD j zp0).1 ≠ m) → zlf (fX12_placeOf_L2 fu v (w : Int) m (i : Int)) (fun v3 _ => some (v3, (-1))) = some (v, r)
  | 0, fu, i, h1, h2, h3 => by
    obtain ⟨k, rfl⟩ : ∃ k, fu = k + 1 := ⟨fu - 1, by omega⟩
    have hs := hc.1
    rw [fX12_placeOf_L2.eq_2, zck_pos (by omega), if_pos (by omega), zlf_e]
    rcases hr with ⟨h, _⟩ | ⟨j, h4, h5, h6⟩
    · rw [h]
    · exact absurd h6 (h3 j (by omega))
  | d + 1, fu, i, h1, h2, h3 => by
    obtain ⟨k, rfl⟩ : ∃ k, fu = k + 1 := ⟨fu - 1, by omega⟩
    have hs := hc.1
    have hv := (hc.2 i (by omega)).1
    rw [fX12_placeOf_L2.eq_2, zck_pos (by omega), if_neg (by omega), zck_pos (by omega), hv]
    by_cases h4 : (cd.getD i zp0).1 = m
    · rw [if_neg (by omega), zlf_i]
      rcases hr with ⟨_, h⟩ | ⟨j, h5, h6, h7⟩
      · exact absurd h4 (h i (by omega))
      · have : j = i := by
          rcases Nat.lt_trichotomy i j with h8 | h8 | h8
          · have h9 := hi i j h8 h6
            omega
          · omega
          · have h9 := hi j i h8 (by omega)
            omega
        rw [h5, this]
    · rw [if_pos (by omega), zn_pos (by omega), show (i : Int) + 1 = ((i + 1 : Nat) : Int) by omega]
      exact place_L hw hc hi hr hl d k (i + 1) (by omega) (by omega) fun j hj => by
        by_cases h5 : j = i
        · rw [h5]; exact h4
        · exact h3 j (by omega)
theorem m_placeOf {w : Nat} {cd : List zP2} {v : zHp} {m r : Int} (hw : w < 4) (hc : zCdM v (w : Int) cd) (hi : zInc cd) (hr : zFd cd m r) (hl : cd.length ≤ 60) : fX12_placeOf v (w : Int) m = some (v, r) := place_L hw hc hi hr hl cd.length zFU 0 (by omega) (zFU_lt (by omega)) fun j hj => by omega
/-! put in -/
theorem add_L {c : Nat} {m kd : Int} {p : Nat} : ∀ (d fu : Nat) (v : zHp), d < fu → p + d < 60 → (∀ j : Int, (p : Int) ≤ j → j < (p : Int) + (d : Int) → m < v (c + 1) j) → (p = 0 ∨ v (c + 1) ((p : Int) - 1) ≤ m) → ∃ v', fX1_add_L15 fu v c m kd ((p : Int) + (d : Int)) = some (v', (p : Int)) ∧ (∀ j : Int, v' (c + 1) j = if (p : Int) < j ∧ j ≤ (p : Int) + (d : Int) then v (c + 1) (j - 1) else v (c + 1) j) ∧ (∀ j : Int, v' (c + 2) j = if (p : Int) < j ∧ j ≤ (p : Int) + (d : Int) then v (c + 2) (j - 1) else v (c + 2) j) ∧ ∀ a, a ≠ c + 1 → a ≠ c + 2 → v' a = v a
  | 0, fu, v, hf, hp, h1, h2 => by
    obtain ⟨k, rfl⟩ : ∃ k, fu = k + 1 := ⟨fu - 1, by omega⟩
    refine ⟨v, ?_, fun j => ?_, fun j => ?_, fun a _ _ => rfl⟩
    · rw [show (p : Int) + ((0 : Nat) : Int) = (p : Int) by omega, fX1_add_L15.eq_2]
      rcases h2 with h2 | h2
      · rw [if_pos (by omega)]
      · by_cases h3 : p = 0
        · rw [if_pos (by omega)]
        · rw [if_neg (by omega), zck_pos (by omega), if_pos h2]
    · rw [if_neg (by omega)]
    · rw [if_neg (by omega)]
  | d + 1, fu, v, hf, hp, h1, h2 => by
    obtain ⟨k, rfl⟩ : ∃ k, fu = k + 1 := ⟨fu - 1, by omega⟩
    have h3 := h1 ((p : Int) + (d : Int)) (by omega) (by omega)
    rw [show (p : Int) + ((d + 1 : Nat) : Int) = (p : Int) + (d : Int) + 1 by omega, fX1_add_L15.eq_2, if_neg (by omega), zck_pos (by omega), show (p : Int) + (d : Int) + 1 - 1 = (p : Int) + (d : Int) by omega, if_neg (by omega), zck_pos (by omega), zck_pos (by omega), zb_e, zck_pos (by omega), zck_pos (by omega), zb_e, zn_pos (by omega), show (p : Int) + (d : Int) + 1 + -1 = (p : Int) + (d : Int) by omega]
    have q : ∀ (j : Int), j ≠ (p : Int) + (d : Int) + 1 → zst (zst v (c + 1) ((p : Int) + (d : Int) + 1) (v (c + 1) ((p : Int) + (d : Int)))) (c + 2) ((p : Int) + (d : Int) + 1) (zst v (c + 1) ((p : Int) + (d : Int) + 1) (v (c + 1) ((p : Int) + (d : Int))) (c + 2) ((p : Int) + (d : Int))) (c + 1) j = v (c + 1) j := fun j hj => by rw [zst_na (by omega), zst_nj hj]
    obtain ⟨v', g1, g2, g3, g4⟩ := add_L (p := p) d k (zst (zst v (c + 1) ((p : Int) + (d : Int) + 1) (v (c + 1) ((p : Int) + (d : Int)))) (c + 2) ((p : Int) + (d : Int) + 1) (zst v (c + 1) ((p : Int) + (d : Int) + 1) (v (c + 1) ((p : Int) + (d : Int))) (c + 2) ((p : Int) + (d : Int)))) (by omega) (by omega) (fun j h5 h6 => by rw [q j (by omega)]; exact h1 j h5 (by omega)) (by rw [q _ (by omega)]; exact h2)
    refine ⟨v', g1, fun j => ?_, fun j => ?_, fun a h5 h6 => ?_⟩
    · rw [g2 j]
      by_cases h5 : (p : Int) < j ∧ j ≤ (p : Int) + (d : Int)
      · rw [if_pos h5, if_pos (by omega), q _ (by omega)]
      · rw [if_neg h5]
        by_cases h6 : j = (p : Int) + (d : Int) + 1
        · rw [if_pos (by omega), h6, zst_na (by omega), zst_eq, show (p : Int) + (d : Int) + 1 - 1 = (p : Int) + (d : Int) by omega]
        · rw [if_neg (by omega), q _ h6]
    · rw [g3 j]
      by_cases h5 : (p : Int) < j ∧ j ≤ (p : Int) + (d : Int)
      · rw [if_pos h5, if_pos (by omega), zst_nj (by omega), zst_na (by omega)]
      · rw [if_neg h5]
        by_cases h6 : j = (p : Int) + (d : Int) + 1
        · rw [if_pos (by omega), h6, zst_eq, zst_na (by omega), show (p : Int) + (d : Int) + 1 - 1 = (p : Int) + (d : Int) by omega]
        · rw [if_neg (by omega), zst_nj h6, zst_na (by omega)]
    · rw [g4 a h5 h6]
      funext j
      rw [zst_na h6, zst_na h5]
theorem c_add {c : Nat} {cd : List zP2} {v : zHp} {m kd : Int} {p : Nat} (hc : zCdC v c cd) (hp : zPl cd m p) (hl : cd.length < 60) : ∃ v', fX1_add v c m kd = some (v', 0) ∧ zCdC v' c (cd.insertIdx p (m, kd)) ∧ ∀ a, a ≠ c → a ≠ c + 1 → a ≠ c + 2 → v' a = v a := by
  obtain ⟨p1, p2, p3⟩ := hp
  obtain ⟨hs, hv⟩ := hc
  obtain ⟨v', g1, g2, g3, g4⟩ := add_L (c := c) (m := m) (kd := kd) (p := p) (cd.length - p) zFU v (zFU_lt (by omega)) (by omega) (fun j h1 h2 => by
    have e : ((j.toNat : Nat) : Int) = j := by omega
    rw [← e, (hv j.toNat (by omega)).1]
    exact p3 j.toNat (by omega) (by omega)) (by
    by_cases h : p = 0
    · exact Or.inl h
    · refine Or.inr ?_
      have e : (p : Int) - 1 = ((p - 1 : Nat) : Int) := by omega
      rw [e, (hv (p - 1) (by omega)).1]
      exact Int.le_of_lt (p2 (p - 1) (by omega)))
  have e : (p : Int) + ((cd.length - p : Nat) : Int) = (cd.length : Int) := by omega
  rw [e] at g1 g2 g3
  have hs' : v' c 2 = (cd.length : Int) := by rw [g4 c (by omega) (by omega)]; exact hs
  refine ⟨zst (zst (zst v' (c + 1) p m) (c + 2) p kd) c 2 ((cd.length : Int) + 1), ?_, ⟨?_, fun i hi => ?_⟩, fun a h1 h2 h3 => ?_⟩
  · unfold fX1_add
    rw [if_pos (by omega), hs, g1, zl_e, zck_pos (by omega), zb_e, zck_pos (by omega), zb_e, zst_na (by omega), zst_na (by omega), hs', zn_pos (by omega), zb_e]
  · rw [zst_eq, ins_len p1]
    omega
  · rw [ins_len p1] at hi
    have r1 : zst (zst (zst v' (c + 1) p m) (c + 2) p kd) c 2 ((cd.length : Int) + 1) (c + 1) (i : Int) = if (i : Int) = (p : Int) then m else v' (c + 1) i := by rw [zst_na (by omega), zst_na (by omega), zst_if]
    have r2 : zst (zst (zst v' (c + 1) p m) (c + 2) p kd) c 2 ((cd.length : Int) + 1) (c + 2) (i : Int) = if (i : Int) = (p : Int) then kd else v' (c + 2) i := by rw [zst_na (by omega), zst_if, zst_na (by omega)]
    rw [r1, r2, ins_get p1]
    by_cases h1 : i < p
    · have n1 : ¬ (i : Int) = (p : Int) := by omega
      simp only [if_neg n1, if_pos h1]
      rw [g2, g3, if_neg (by omega), if_neg (by omega)]
      exact hv i (by omega)
    · by_cases h2 : i = p
      · have n1 : (i : Int) = (p : Int) := by omega
        simp only [if_pos n1, if_neg h1, if_pos h2]
        exact ⟨trivial, trivial⟩
      · have n1 : ¬ (i : Int) = (p : Int) := by omega
        simp only [if_neg n1, if_neg h1, if_neg h2]
        rw [g2, g3, if_pos (by omega), if_pos (by omega), show (i : Int) - 1 = ((i - 1 : Nat) : Int) by omega]
        exact hv (i - 1) (by omega)
  · funext j
    rw [zst_na h1, zst_na h3, zst_na h2, g4 a h2 h3]
/-- the reference's -/
theorem comes_L {w : Nat} {m kd : Int} {p : Nat} (hw : w < 4) : ∀ (d fu : Nat) (v : zHp), d < fu → p + d ≤ 60 → (∀ j : Int, 61 * (w : Int) + (p : Int) ≤ j → j < 61 * (w : Int) + (p : Int) + (d : Int) → m < v 142 j) → (p = 0 ∨ v 142 (61 * (w : Int) + (p : Int) - 1) ≤ m) → ∃ v', fX12_comes_L8 fu v (w : Int) m kd ((p : Int) + (d : Int)) = some (v', (p : Int)) ∧ (∀ j : Int, v' 142 j = if 61 * (w : Int) + (p : Int) < j ∧ j ≤ 61 * (w : Int) + (p : Int) + (d : Int) then v 142 (j - 1) else v 142 j) ∧ (∀ j : Int, v' 143 j = if 61 * (w : Int) + (p : Int) < j ∧ j ≤ 61 * (w : Int) + (p : Int) + (d : Int) then v 143 (j - 1) else v 143 j) ∧ ∀ a, a ≠ 142 → a ≠ 143 → v' a = v a
  | 0, fu, v, hf, hp, h1, h2 => by
    obtain ⟨k, rfl⟩ : ∃ k, fu = k + 1 := ⟨fu - 1, by omega⟩
    refine ⟨v, ?_, fun j => ?_, fun j => ?_, fun a _ _ => rfl⟩
    · rw [show (p : Int) + ((0 : Nat) : Int) = (p : Int) by omega, fX12_comes_L8.eq_2]
      rcases h2 with h2 | h2
      · rw [if_pos (by omega)]
      · by_cases h3 : p = 0
        · rw [if_pos (by omega)]
        · rw [if_neg (by omega), zck_pos (by omega), if_pos h2]
    · rw [if_neg (by omega)]
    · rw [if_neg (by omega)]
  | d + 1, fu, v, hf, hp, h1, h2 => by
    obtain ⟨k, rfl⟩ : ∃ k, fu = k + 1 := ⟨fu - 1, by omega⟩
    have h3 := h1 (61 * (w : Int) + (p : Int) + (d : Int)) (by omega) (by omega)
    have e1 : 61 * (w : Int) + ((p : Int) + (d : Int) + 1) - 1 = 61 * (w : Int) + (p : Int) + (d : Int) := by omega
    have e2 : 61 * (w : Int) + ((p : Int) + (d : Int) + 1) = 61 * (w : Int) + (p : Int) + (d : Int) + 1 := by omega
    rw [show (p : Int) + ((d + 1 : Nat) : Int) = (p : Int) + (d : Int) + 1 by omega, fX12_comes_L8.eq_2, if_neg (by omega), e1, e2, zck_pos (by omega), if_neg (by omega), zck_pos (by omega), zck_pos (by omega), zb_e, zck_pos (by omega), zck_pos (by omega), zb_e, zn_pos (by omega), show (p : Int) + (d : Int) + 1 + -1 = (p : Int) + (d : Int) by omega]
    have q : ∀ (j : Int), j ≠ 61 * (w : Int) + (p : Int) + (d : Int) + 1 → zst (zst v 142 (61 * (w : Int) + (p : Int) + (d : Int) + 1) (v 142 (61 * (w : Int) + (p : Int) + (d : Int)))) 143 (61 * (w : Int) + (p : Int) + (d : Int) + 1) (zst v 142 (61 * (w : Int) + (p : Int) + (d : Int) + 1) (v 142 (61 * (w : Int) + (p : Int) + (d : Int))) 143 (61 * (w : Int) + (p : Int) + (d : Int))) 142 j = v 142 j := fun j hj => by rw [zst_na (by decide), zst_nj hj]
    obtain ⟨v', g1, g2, g3, g4⟩ := comes_L (p := p) hw d k (zst (zst v 142 (61 * (w : Int) + (p : Int) + (d : Int) + 1) (v 142 (61 * (w : Int) + (p : Int) + (d : Int)))) 143 (61 * (w : Int) + (p : Int) + (d : Int) + 1) (zst v 142 (61 * (w : Int) + (p : Int) + (d : Int) + 1) (v 142 (61 * (w : Int) + (p : Int) + (d : Int))) 143 (61 * (w : Int) + (p : Int) + (d : Int)))) (by omega) (by omega) (fun j h5 h6 => by rw [q j (by omega)]; exact h1 j h5 (by omega)) (by rw [q _ (by omega)]; exact h2)
    refine ⟨v', g1, fun j => ?_, fun j => ?_, fun a h5 h6 => ?_⟩
    · rw [g2 j]
      by_cases h5 : 61 * (w : Int) + (p : Int) < j ∧ j ≤ 61 * (w : Int) + (p : Int) + (d : Int)
      · rw [if_pos h5, if_pos (by omega), q _ (by omega)]
      · rw [if_neg h5]
        by_cases h6 : j = 61 * (w : Int) + (p : Int) + (d : Int) + 1
        · rw [if_pos (by omega), h6, zst_na (by decide), zst_eq, show 61 * (w : Int) + (p : Int) + (d : Int) + 1 - 1 = 61 * (w : Int) + (p : Int) + (d : Int) by omega]
        · rw [if_neg (by omega), q _ h6]
    · rw [g3 j]
      by_cases h5 : 61 * (w : Int) + (p : Int) < j ∧ j ≤ 61 * (w : Int) + (p : Int) + (d : Int)
      · rw [if_pos h5, if_pos (by omega), zst_nj (by omega), zst_na (by decide)]
      · rw [if_neg h5]
        by_cases h6 : j = 61 * (w : Int) + (p : Int) + (d : Int) + 1
        · rw [if_pos (by omega), h6, zst_eq, zst_na (by decide), show 61 * (w : Int) + (p : Int) + (d : Int) + 1 - 1 = 61 * (w : Int) + (p : Int) + (d : Int) by omega]
        · rw [if_neg (by omega), zst_nj h6, zst_na (by decide)]
    · rw [g4 a h5 h6]
      funext j
      rw [zst_na h6, zst_na h5]
theorem m_comes {w : Nat} {cd : List zP2} {v : zHp} {m kd : Int} {p : Nat} (hw : w < 4) (hc : zCdM v (w : Int) cd) (hp : zPl cd m p) (hl : cd.length < 60) : ∃ v', fX12_comes v (w : Int) m kd = some (v', 0) ∧ zCdM v' (w : Int) (cd.insertIdx p (m, kd)) ∧ (∀ a, a ≠ 141 → a ≠ 142 → a ≠ 143 → v' a = v a) ∧ ∀ (x : Nat) (cx : List zP2), x ≠ w → cx.length ≤ 60 → zCdM v (x : Int) cx → zCdM v' (x : Int) cx := by
  obtain ⟨p1, p2, p3⟩ := hp
  obtain ⟨hs, hv⟩ := hc
  obtain ⟨v', g1, g2, g3, g4⟩ := comes_L (w := w) (m := m) (kd := kd) (p := p) hw (cd.length - p) zFU v (zFU_lt (by omega)) (by omega) (fun j h1 h2 => by
    have e : j = 61 * (w : Int) + (((j - 61 * (w : Int)).toNat : Nat) : Int) := by omega
    rw [e, (hv (j - 61 * (w : Int)).toNat (by omega)).1]
    exact p3 _ (by omega) (by omega)) (by
    by_cases h : p = 0
    · exact Or.inl h
    · refine Or.inr ?_
      have e : 61 * (w : Int) + (p : Int) - 1 = 61 * (w : Int) + ((p - 1 : Nat) : Int) := by omega
      rw [e, (hv (p - 1) (by omega)).1]
      exact Int.le_of_lt (p2 (p - 1) (by omega)))
  have e : (p : Int) + ((cd.length - p : Nat) : Int) = (cd.length : Int) := by omega
  have e2 : 61 * (w : Int) + (p : Int) + ((cd.length - p : Nat) : Int) = 61 * (w : Int) + (cd.length : Int) := by omega
  rw [e] at g1
  rw [e2] at g2 g3
  have hs' : v' 141 (w : Int) = (cd.length : Int) := by rw [g4 141 (by decide) (by decide)]; exact hs
  have r1 : ∀ i : Int, zst (zst (zst v' 142 (61 * (w : Int) + (p : Int)) m) 143 (61 * (w : Int) + (p : Int)) kd) 141 (w : Int) ((cd.length : Int) + 1) 142 i = if i = 61 * (w : Int) + (p : Int) then m else v' 142 i := fun i => by rw [zst_na (by decide), zst_na (by decide), zst_if]
  have r2 : ∀ i : Int, zst (zst (zst v' 142 (61 * (w : Int) + (p : Int)) m) 143 (61 * (w : Int) + (p : Int)) kd) 141 (w : Int) ((cd.length : Int) + 1) 143 i = if i = 61 * (w : Int) + (p : Int) then kd else v' 143 i := fun i => by rw [zst_na (by decide), zst_if, zst_na (by decide)]
  refine ⟨zst (zst (zst v' 142 (61 * (w : Int) + (p : Int)) m) 143 (61 * (w : Int) + (p : Int)) kd) 141 (w : Int) ((cd.length : Int) + 1), ?_, ⟨?_, fun i hi => ?_⟩, fun a h1 h2 h3 => ?_, fun x cx h1 h2 h3 => ⟨?_, fun i hi => ?_⟩⟩
  · unfold fX12_comes
    rw [zck_pos (by omega), hs, g1, zl_e, zck_pos (by omega), zb_e, zck_pos (by omega), zb_e, zck_pos (by omega), zst_na (by decide), zst_na (by decide), hs', zn_pos (by omega), zck_pos (by omega), zb_e]
  · rw [zst_eq, ins_len p1]
    omega
  · rw [ins_len p1] at hi
    rw [r1, r2, ins_get p1]
    by_cases h1 : i < p
    · have n1 : ¬ 61 * (w : Int) + (i : Int) = 61 * (w : Int) + (p : Int) := by omega
      simp only [if_neg n1, if_pos h1]
      rw [g2, g3, if_neg (by omega), if_neg (by omega)]
      exact hv i (by omega)
    · by_cases h2 : i = p
      · have n1 : 61 * (w : Int) + (i : Int) = 61 * (w : Int) + (p : Int) := by omega
        simp only [if_pos n1, if_neg h1, if_pos h2]
        exact ⟨trivial, trivial⟩
      · have n1 : ¬ 61 * (w : Int) + (i : Int) = 61 * (w : Int) + (p : Int) := by omega
        simp only [if_neg n1, if_neg h1, if_neg h2]
        rw [g2, g3, if_pos (by omega), if_pos (by omega), show 61 * (w : Int) + (i : Int) - 1 = 61 * (w : Int) + ((i - 1 : Nat) : Int) by omega]
        exact hv (i - 1) (by omega)
  · funext j
    rw [zst_na h1, zst_na h3, zst_na h2, g4 a h2 h3]
  · rw [zst_nj (by omega), zst_na (by decide), zst_na (by decide), g4 141 (by decide) (by decide)]
    exact h3.1
  · rw [r1, r2, if_neg (by omega), if_neg (by omega), g2, g3, if_neg (by omega), if_neg (by omega)]
    exact h3.2 i hi
