/-! PURE: what can be taken back, both sides. My own text. -/
abbrev zP4 : Type := Int × Int × Int × Int
abbrev ze0 : zP4 := ((0 : Int), (0 : Int), (0 : Int), (0 : Int))
/-- the kept ones, the latest last: came, worker, moment, kind -/
def zHiC (v : zHp) (hs : List zP4) : Prop := v 102 4 = (hs.length : Int) ∧ hs.length ≤ 16 ∧ ∀ t : Nat, t < hs.length → v 103 (t : Int) = (hs.getD t ze0).2.1 ∧ v 104 (t : Int) = (hs.getD t ze0).2.2.1 ∧ v 105 (t : Int) = (hs.getD t ze0).2.2.2 ∧ v 106 (t : Int) = (hs.getD t ze0).1 ∧ ((hs.getD t ze0).1 = 0 ∨ (hs.getD t ze0).1 = 1)
def zHiM (v : zHp) (hs : List zP4) : Prop := v 137 16 = (hs.length : Int) ∧ hs.length ≤ 16 ∧ ∀ t : Nat, t < hs.length → v 144 (4 * (t : Int)) = 1 - (hs.getD t ze0).1 ∧ v 144 (4 * (t : Int) + 1) = (hs.getD t ze0).2.1 ∧ v 144 (4 * (t : Int) + 2) = (hs.getD t ze0).2.2.1 ∧ v 144 (4 * (t : Int) + 3) = (hs.getD t ze0).2.2.2
def zHn (hs : List zP4) (e : zP4) : List zP4 := (if hs.length = 16 then hs.drop 1 else hs) ++ [e]
theorem dr_get {α : Type} {l : List α} {d : α} {i : Nat} : (l.drop 1).getD i d = l.getD (i + 1) d := by
  rw [List.getD_eq_getElem?_getD, List.getElem?_drop, List.getD_eq_getElem?_getD, Nat.add_comm 1 i]
theorem drop_L : ∀ (d fu x : Nat) (v : zHp), x + d = 15 → d < fu → v 102 4 = 15 → (∀ j : Int, 0 ≤ j → j < 16 → v 106 j = 0 ∨ v 106 j = 1) → ∃ v', fX3_dropOldest_L12 fu v (x : Int) = some (v', 0) ∧ (∀ a : Nat, 103 ≤ a → a ≤ 106 → ∀ j : Int, v' a j = if (x : Int) ≤ j ∧ j < 15 then v a (j + 1) else v a j) ∧ ∀ a, a < 103 ∨ 106 < a → v' a = v a
  | 0, fu, x, v, h1, h2, h3, h4 => by
    obtain ⟨k, rfl⟩ : ∃ k, fu = k + 1 := ⟨fu - 1, by omega⟩
    refine ⟨v, ?_, fun a _ _ j => ?_, fun a _ => rfl⟩
    · rw [fX3_dropOldest_L12.eq_2, if_pos (by omega)]
    · rw [if_neg (by omega)]
  | d + 1, fu, x, v, h1, h2, h3, h4 => by
    obtain ⟨k, rfl⟩ : ∃ k, fu = k + 1 := ⟨fu - 1, by omega⟩
    have e1 : (x : Int) + 1 = ((x + 1 : Nat) : Int) := by omega
    rw [fX3_dropOldest_L12.eq_2, if_neg (by omega), zck_pos (by omega), zck_pos (by omega), zb_e, zck_pos (by omega), zck_pos (by omega), zb_e, zck_pos (by omega), zck_pos (by omega), zb_e, zck_pos (by omega), zck_pos (by omega)]
    simp only [zst_na (show 104 ≠ 103 by decide), zst_na (show 105 ≠ 104 by decide), zst_na (show 105 ≠ 103 by decide), zst_na (show 106 ≠ 105 by decide), zst_na (show 106 ≠ 104 by decide), zst_na (show 106 ≠ 103 by decide)]
    rw [zck_pos (h4 _ (by omega) (by omega)), zb_e, zn_pos (by omega), e1]
    have r : ∀ a : Nat, 103 ≤ a → a ≤ 106 → ∀ j : Int, zst (zst (zst (zst v 103 (x : Int) (v 103 ((x + 1 : Nat) : Int))) 104 (x : Int) (v 104 ((x + 1 : Nat) : Int))) 105 (x : Int) (v 105 ((x + 1 : Nat) : Int))) 106 (x : Int) (v 106 ((x + 1 : Nat) : Int)) a j = if j = (x : Int) then v a ((x + 1 : Nat) : Int) else v a j := fun a ha hb j => by
      have hc : a = 103 ∨ a = 104 ∨ a = 105 ∨ a = 106 := by omega
      rcases hc with rfl | rfl | rfl | rfl
      · rw [zst_na (by decide), zst_na (by decide), zst_na (by decide), zst_if]
      · rw [zst_na (by decide), zst_na (by decide), zst_if, zst_na (by decide)]
      · rw [zst_na (by decide), zst_if, zst_na (by decide), zst_na (by decide)]
      · rw [zst_if, zst_na (by decide), zst_na (by decide), zst_na (by decide)]
    have r2 : ∀ a, a < 103 ∨ 106 < a → zst (zst (zst (zst v 103 (x : Int) (v 103 ((x + 1 : Nat) : Int))) 104 (x : Int) (v 104 ((x + 1 : Nat) : Int))) 105 (x : Int) (v 105 ((x + 1 : Nat) : Int))) 106 (x : Int) (v 106 ((x + 1 : Nat) : Int)) a = v a := fun a ha => by
      funext j
      rw [zst_na (by omega), zst_na (by omega), zst_na (by omega), zst_na (by omega)]
    generalize zst (zst (zst (zst v 103 (x : Int) (v 103 ((x + 1 : Nat) : Int))) 104 (x : Int) (v 104 ((x + 1 : Nat) : Int))) 105 (x : Int) (v 105 ((x + 1 : Nat) : Int))) 106 (x : Int) (v 106 ((x + 1 : Nat) : Int)) = v1 at r r2 ⊢
    obtain ⟨v', g1, g2, g3⟩ := drop_L d k (x + 1) v1 (by omega) (by omega) (by rw [r2 102 (by omega)]; exact h3) (fun j ha hb => by
      rw [r 106 (by decide) (by decide)]
      by_cases hj : j = (x : Int)
      · rw [if_pos hj]
        exact h4 _ (by omega) (by omega)
      · rw [if_neg hj]
        exact h4 j ha hb)
    refine ⟨v', g1, fun a ha hb j => ?_, fun a ha => by rw [g3 a ha, r2 a ha]⟩
    rw [g2 a ha hb j, r a ha hb, r a ha hb]
    by_cases h5 : ((x + 1 : Nat) : Int) ≤ j ∧ j < 15
    · rw [if_pos h5, if_neg (by omega), if_pos (by omega)]
    · rw [if_neg h5]
      by_cases h6 : j = (x : Int)
      · rw [if_pos h6, if_pos (by omega), h6, e1]
      · rw [if_neg h6, if_neg (by omega)]
theorem c_keepJ {v : zHp} {hs : List zP4} (h : zHiC v hs) (hl : hs.length < 16) {w m k c : Int} (hc : c = 0 ∨ c = 1) : ∃ v', fX3_keep_J13 v w m k c = some (v', 0) ∧ zHiC v' (hs ++ [(c, w, m, k)]) ∧ ∀ a, a < 102 ∨ 106 < a → v' a = v a := by
  obtain ⟨h1, h2, h3⟩ := h
  refine ⟨zst (zst (zst (zst (zst v 103 (hs.length : Int) w) 104 (hs.length : Int) m) 105 (hs.length : Int) k) 106 (hs.length : Int) c) 102 4 ((hs.length : Int) + 1), ?_, ⟨?_, ?_, fun t ht => ?_⟩, fun a ha => ?_⟩
  · unfold fX3_keep_J13
    rw [h1, zck_pos (by omega), zb_e, zst_na (by decide), h1, zck_pos (by omega), zb_e, zst_na (by decide), zst_na (by decide), h1, zck_pos (by omega), zb_e, zst_na (by decide), zst_na (by decide), zst_na (by decide), h1, zck_pos (by omega), zck_pos hc, zb_e, zst_na (by decide), zst_na (by decide), zst_na (by decide), zst_na (by decide), h1, zn_pos (by omega), zb_e]
  · rw [zst_eq, sn_len]
    rfl
  · rw [sn_len]
    omega
  · rw [sn_len] at ht
    have r : ∀ a : Nat, a ≠ 102 → zst (zst (zst (zst (zst v 103 (hs.length : Int) w) 104 (hs.length : Int) m) 105 (hs.length : Int) k) 106 (hs.length : Int) c) 102 4 ((hs.length : Int) + 1) a (t : Int) = if (t : Int) = (hs.length : Int) then (if a = 103 then w else if a = 104 then m else if a = 105 then k else if a = 106 then c else v a t) else v a t := fun a ha => by
      rw [zst_na ha]
      by_cases ht2 : (t : Int) = (hs.length : Int)
      · rw [if_pos ht2, ht2]
        simp only [zst_c, and_true]
        repeat' split
        all_goals first | rfl | (exfalso; omega)
      · rw [if_neg ht2, zst_nj ht2, zst_nj ht2, zst_nj ht2, zst_nj ht2]
    rw [r 103 (by decide), r 104 (by decide), r 105 (by decide), r 106 (by decide)]
    by_cases ht2 : t = hs.length
    · subst ht2
      rw [sn_eq]
      refine ⟨?_, ?_, ?_, ?_, hc⟩ <;> simp
    · rw [if_neg (by omega), if_neg (by omega), if_neg (by omega), if_neg (by omega), sn_lt (by omega)]
      exact h3 t (by omega)
  · funext j
    rw [zst_na (by omega), zst_na (by omega), zst_na (by omega), zst_na (by omega), zst_na (by omega)]
theorem c_keep {v : zHp} {hs : List zP4} (h : zHiC v hs) {w m k c : Int} (hc : c = 0 ∨ c = 1) : ∃ v', fX3_keep v w m k c = some (v', 0) ∧ zHiC v' (zHn hs (c, w, m, k)) ∧ ∀ a, a < 102 ∨ 106 < a → v' a = v a := by
  obtain ⟨h1, h2, h3⟩ := h
  unfold fX3_keep zHn
  by_cases hl : hs.length = 16
  · rw [if_pos hl, if_neg (by omega)]
    obtain ⟨v1, g1, g2, g3⟩ := drop_L 15 zFU 0 (zst v 102 4 15) rfl (zFU_lt (by decide)) zst_eq (fun j ha hb => by
      rw [zst_na (by decide), show j = ((j.toNat : Nat) : Int) by omega]
      have h4 := h3 j.toNat (by omega)
      rw [h4.2.2.2.1]
      exact h4.2.2.2.2)
    have e : fX3_dropOldest v = some (v1, 0) := by
      unfold fX3_dropOldest
      rw [h1, hl, zn_pos (by decide), zb_e, show ((16 : Nat) : Int) - 1 = 15 by decide, show (0 : Int) = ((0 : Nat) : Int) from rfl, g1]
      rfl
    have hd : (hs.drop 1).length = 15 := by rw [List.length_drop, hl]
    have hC : zHiC v1 (hs.drop 1) := by
      refine ⟨?_, by omega, fun t ht => ?_⟩
      · rw [g3 102 (by omega), zst_eq, hd]
        rfl
      · rw [hd] at ht
        have n1 : ((0 : Nat) : Int) ≤ (t : Int) ∧ (t : Int) < 15 := by omega
        rw [g2 103 (by decide) (by decide), g2 104 (by decide) (by decide), g2 105 (by decide) (by decide), g2 106 (by decide) (by decide), if_pos n1, if_pos n1, if_pos n1, if_pos n1, zst_na (by decide), zst_na (by decide), zst_na (by decide), zst_na (by decide), dr_get]
        exact h3 (t + 1) (by omega)
    obtain ⟨v', q1, q2, q3⟩ := c_keepJ hC (by omega) hc (w := w) (m := m) (k := k)
    refine ⟨v', ?_, q2, fun a ha => ?_⟩
    · rw [e, zcl_e]
      exact q1
    · rw [q3 a ha, g3 a (by omega)]
      funext j
      exact zst_na (by omega)
  · rw [if_neg hl, if_pos (by omega)]
    exact c_keepJ ⟨h1, h2, h3⟩ (by omega) hc
theorem notes_L {x1 x2 x3 x4 : Int} : ∀ (d fu x : Nat) (v : zHp), x + d = 60 → d < fu → ∃ v', fX12_notes_L12 fu v x1 x2 x3 x4 (x : Int) = some (v', 0) ∧ (∀ j : Int, v' 144 j = if (x : Int) ≤ j ∧ j < 60 then v 144 (j + 4) else v 144 j) ∧ ∀ a, a ≠ 144 → v' a = v a
  | 0, fu, x, v, h1, h2 => by
    obtain ⟨k, rfl⟩ : ∃ k, fu = k + 1 := ⟨fu - 1, by omega⟩
    refine ⟨v, ?_, fun j => ?_, fun a _ => rfl⟩
    · rw [fX12_notes_L12.eq_2, if_pos (by omega)]
    · rw [if_neg (by omega)]
  | d + 1, fu, x, v, h1, h2 => by
    obtain ⟨k, rfl⟩ : ∃ k, fu = k + 1 := ⟨fu - 1, by omega⟩
    rw [fX12_notes_L12.eq_2, if_neg (by omega), zck_pos (by omega), zck_pos (by omega), zb_e, zn_pos (by omega), show (x : Int) + 1 = ((x + 1 : Nat) : Int) by omega]
    obtain ⟨v', g1, g2, g3⟩ := notes_L d k (x + 1) (zst v 144 (x : Int) (v 144 ((x : Int) + 4))) (by omega) (by omega)
    refine ⟨v', g1, fun j => ?_, fun a ha => by rw [g3 a ha]; funext j; exact zst_na ha⟩
    rw [g2 j, zst_if, zst_if]
    by_cases h5 : ((x + 1 : Nat) : Int) ≤ j ∧ j < 60
    · rw [if_pos h5, if_neg (by omega), if_pos (by omega)]
    · rw [if_neg h5]
      by_cases h6 : j = (x : Int)
      · rw [if_pos h6, if_pos (by omega), h6]
      · rw [if_neg h6, if_neg (by omega)]
theorem m_notesJ {v : zHp} {hs : List zP4} (h : zHiM v hs) (hl : hs.length < 16) {w m k c : Int} : ∃ v', fX12_notes_J51 v (1 - c) w m k = some (v', 0) ∧ zHiM v' (hs ++ [(c, w, m, k)]) ∧ (∀ a, a ≠ 144 → a ≠ 137 → v' a = v a) ∧ ∀ j, j ≠ 16 → v' 137 j = v 137 j := by
  obtain ⟨h1, h2, h3⟩ := h
  refine ⟨zst (zst (zst (zst (zst v 144 (4 * (hs.length : Int)) (1 - c)) 144 (4 * (hs.length : Int) + 1) w) 144 (4 * (hs.length : Int) + 2) m) 144 (4 * (hs.length : Int) + 3) k) 137 16 ((hs.length : Int) + 1), ?_, ⟨?_, ?_, fun t ht => ?_⟩, fun a ha hb => ?_, fun j hj => ?_⟩
  · unfold fX12_notes_J51
    rw [h1, zck_pos (by omega), zb_e, zst_na (by decide), h1, zck_pos (by omega), zb_e, zst_na (by decide), zst_na (by decide), h1, zck_pos (by omega), zb_e, zst_na (by decide), zst_na (by decide), zst_na (by decide), h1, zck_pos (by omega), zb_e, zst_na (by decide), zst_na (by decide), zst_na (by decide), zst_na (by decide), h1, zn_pos (by omega), zb_e]
  · rw [zst_eq, sn_len]
    rfl
  · rw [sn_len]
    omega
  · rw [sn_len] at ht
    simp only [zst_na (show 144 ≠ 137 by decide), zst_if]
    by_cases ht2 : t = hs.length
    · subst ht2
      rw [sn_eq]
      refine ⟨?_, ?_, ?_, ?_⟩
      · rw [if_neg (by omega), if_neg (by omega), if_neg (by omega), if_pos rfl]
      · rw [if_neg (by omega), if_neg (by omega), if_pos rfl]
      · rw [if_neg (by omega), if_pos rfl]
      · rw [if_pos rfl]
    · obtain ⟨q1, q2, q3, q4⟩ := h3 t (by omega)
      rw [sn_lt (by omega)]
      refine ⟨?_, ?_, ?_, ?_⟩
      · rw [if_neg (by omega), if_neg (by omega), if_neg (by omega), if_neg (by omega)]
        exact q1
      · rw [if_neg (by omega), if_neg (by omega), if_neg (by omega), if_neg (by omega)]
        exact q2
      · rw [if_neg (by omega), if_neg (by omega), if_neg (by omega), if_neg (by omega)]
        exact q3
      · rw [if_neg (by omega), if_neg (by omega), if_neg (by omega), if_neg (by omega)]
        exact q4
  · funext j
    rw [zst_na hb, zst_na ha, zst_na ha, zst_na ha, zst_na ha]
  · rw [zst_nj hj, zst_na (by decide), zst_na (by decide), zst_na (by decide), zst_na (by decide)]
theorem m_notes {v : zHp} {hs : List zP4} (h : zHiM v hs) {w m k c : Int} : ∃ v', fX12_notes v (1 - c) w m k = some (v', 0) ∧ zHiM v' (zHn hs (c, w, m, k)) ∧ (∀ a, a ≠ 144 → a ≠ 137 → v' a = v a) ∧ ∀ j, j ≠ 16 → v' 137 j = v 137 j := by
  obtain ⟨h1, h2, h3⟩ := h
  unfold fX12_notes zHn
  by_cases hl : hs.length = 16
  · rw [if_pos hl, if_neg (by omega)]
    obtain ⟨v1, g1, g2, g3⟩ := notes_L (x1 := 1 - c) (x2 := w) (x3 := m) (x4 := k) 60 zFU 0 v rfl (zFU_lt (by decide))
    have hd : (hs.drop 1).length = 15 := by rw [List.length_drop, hl]
    have hC : zHiM (zst v1 137 16 15) (hs.drop 1) := by
      refine ⟨?_, by omega, fun t ht => ?_⟩
      · rw [zst_eq, hd]
        rfl
      · rw [hd] at ht
        rw [zst_na (by decide), zst_na (by decide), zst_na (by decide), zst_na (by decide), g2, g2, g2, g2, if_pos (by omega), if_pos (by omega), if_pos (by omega), if_pos (by omega), dr_get]
        obtain ⟨q1, q2, q3, q4⟩ := h3 (t + 1) (by omega)
        refine ⟨?_, ?_, ?_, ?_⟩
        · rw [← q1]
          exact congrArg (v 144) (by omega)
        · rw [← q2]
          exact congrArg (v 144) (by omega)
        · rw [← q3]
          exact congrArg (v 144) (by omega)
        · rw [← q4]
          exact congrArg (v 144) (by omega)
    obtain ⟨v', q1, q2, q3, q4⟩ := m_notesJ hC (by omega) (w := w) (m := m) (k := k) (c := c)
    refine ⟨v', ?_, q2, fun a ha hb => ?_, fun j hj => ?_⟩
    · rw [show (0 : Int) = ((0 : Nat) : Int) from rfl, g1, zl_e, g3 137 (by decide), h1, hl, zn_pos (by decide), show ((16 : Nat) : Int) - 1 = 15 by decide, zb_e]
      exact q1
    · rw [q3 a ha hb]
      funext j
      rw [zst_na hb, g3 a ha]
    · rw [q4 j hj, zst_nj hj, g3 137 (by decide)]
  · rw [if_neg hl, if_pos (by omega)]
    exact m_notesJ ⟨h1, h2, h3⟩ (by omega)
/-! the cards of all, and whether what is kept can be taken back -/
def zUp (cs : Nat → List zP2) (w : Nat) (l : List zP2) : Nat → List zP2 := fun x => if x = w then l else cs x
theorem zUp_eq {cs : Nat → List zP2} {w : Nat} {l : List zP2} : zUp cs w l w = l := if_pos rfl
theorem zUp_ne {cs : Nat → List zP2} {w x : Nat} {l : List zP2} (h : x ≠ w) : zUp cs w l x = cs x := if_neg h
theorem zUp_up {cs : Nat → List zP2} {w : Nat} {l m : List zP2} : zUp (zUp cs w l) w m = zUp cs w m := by
  funext x
  unfold zUp
  split <;> rfl
theorem zUp_id {cs : Nat → List zP2} {w : Nat} : zUp cs w (cs w) = cs := by
  funext x
  unfold zUp
  split
  · rename_i h
    rw [h]
  · rfl
/-- a moment, a kind that can be -/
def zOk2 (R : Int → Int) (m k : Int) : Prop := 0 ≤ m ∧ m < 15 * zQA R 28 ∧ 0 ≤ k ∧ k ≤ 2
def zCdOk (R : Int → Int) (cd : List zP2) : Prop := cd.length ≤ 60 ∧ zInc cd ∧ ∀ i : Nat, i < cd.length → zOk2 R (cd.getD i zp0).1 (cd.getD i zp0).2
/-- the kept ones, the latest first, can be taken back one by one -/
def zVld (R : Int → Int) : List zP4 → (Nat → List zP2) → Prop
  | [], _ => True
  | e :: r, cs => ∃ w : Nat, w < 4 ∧ e.2.1 = (w : Int) ∧ ((e.1 = 1 ∧ ∃ p : Nat, p < (cs w).length ∧ (cs w).getD p zp0 = (e.2.2.1, e.2.2.2) ∧ zVld R r (zUp cs w ((cs w).eraseIdx p))) ∨ (e.1 = 0 ∧ (cs w).length < 60 ∧ zOk2 R e.2.2.1 e.2.2.2 ∧ ∃ p : Nat, zPl (cs w) e.2.2.1 p ∧ zVld R r (zUp cs w ((cs w).insertIdx p (e.2.2.1, e.2.2.2)))))
theorem zVld_cut {R : Int → Int} : ∀ (l x : List zP4) (cs : Nat → List zP2), zVld R (l ++ x) cs → zVld R l cs
  | [], _, _, _ => trivial
  | e :: r, x, cs, h => by
    obtain ⟨w, h1, h2, h3⟩ := h
    refine ⟨w, h1, h2, ?_⟩
    rcases h3 with ⟨a, p, b, c, d⟩ | ⟨a, b, c, p, d, e⟩
    · exact Or.inl ⟨a, p, b, c, zVld_cut r x _ d⟩
    · exact Or.inr ⟨a, b, c, p, d, zVld_cut r x _ e⟩
theorem zVld_new {R : Int → Int} {hs : List zP4} {e : zP4} {cs cs' : Nat → List zP2} (h : zVld R hs.reverse cs) (he : ∀ r, zVld R r cs → zVld R (e :: r) cs') : zVld R (zHn hs e).reverse cs' := by
  unfold zHn
  rw [List.reverse_append]
  show zVld R (e :: _) cs'
  apply he
  split
  · rename_i hl
    rcases hs with _ | ⟨a, t⟩
    · exact h
    · rw [List.reverse_cons] at h
      exact zVld_cut _ _ _ h
  · exact h
theorem zInc_ins {cd : List zP2} {m k : Int} {p : Nat} (hi : zInc cd) (hp : zPl cd m p) : zInc (cd.insertIdx p (m, k)) := by
  obtain ⟨p1, p2, p3⟩ := hp
  intro i j h1 h2
  rw [ins_len p1] at h2
  rw [ins_get p1, ins_get p1]
  by_cases a : i < p
  · rw [if_pos a]
    by_cases b : j < p
    · rw [if_pos b]
      exact hi i j h1 (by omega)
    · rw [if_neg b]
      by_cases c : j = p
      · rw [if_pos c]
        exact p2 i a
      · rw [if_neg c]
        exact hi i (j - 1) (by omega) (by omega)
  · rw [if_neg a, if_neg (by omega : ¬ j < p), if_neg (by omega : ¬ j = p)]
    by_cases c : i = p
    · rw [if_pos c]
      exact p3 (j - 1) (by omega) (by omega)
    · rw [if_neg c]
      exact hi (i - 1) (j - 1) (by omega) (by omega)
theorem zInc_del {cd : List zP2} {p : Nat} (hi : zInc cd) (hp : p < cd.length) : zInc (cd.eraseIdx p) := by
  intro i j h1 h2
  rw [del_len hp] at h2
  rw [del_get, del_get]
  by_cases a : i < p
  · rw [if_pos a]
    by_cases b : j < p
    · rw [if_pos b]
      exact hi i j h1 (by omega)
    · rw [if_neg b]
      exact hi i (j + 1) (by omega) (by omega)
  · rw [if_neg a, if_neg (by omega : ¬ j < p)]
    exact hi (i + 1) (j + 1) (by omega) (by omega)
theorem zCdOk_ins {R : Int → Int} {cd : List zP2} {m k : Int} {p : Nat} (h : zCdOk R cd) (hp : zPl cd m p) (hl : cd.length < 60) (hm : zOk2 R m k) : zCdOk R (cd.insertIdx p (m, k)) := by
  refine ⟨by rw [ins_len hp.1]; omega, zInc_ins h.2.1 hp, fun i hi => ?_⟩
  rw [ins_len hp.1] at hi
  rw [ins_get hp.1]
  have p1 := hp.1
  by_cases a : i < p
  · rw [if_pos a]
    exact h.2.2 i (by omega)
  · rw [if_neg a]
    by_cases b : i = p
    · rw [if_pos b]
      exact hm
    · rw [if_neg b]
      exact h.2.2 (i - 1) (by omega)
theorem zCdOk_del {R : Int → Int} {cd : List zP2} {p : Nat} (h : zCdOk R cd) (hp : p < cd.length) : zCdOk R (cd.eraseIdx p) := by
  have h0 := h.1
  refine ⟨by rw [del_len hp]; omega, zInc_del h.2.1 hp, fun i hi => ?_⟩
  rw [del_len hp] at hi
  rw [del_get]
  by_cases a : i < p
  · rw [if_pos a]
    exact h.2.2 i (by omega)
  · rw [if_neg a]
    exact h.2.2 (i + 1) (by omega)
/-- taken out, a moment would come back to its place -/
theorem zPl_del {cd : List zP2} {m : Int} {p : Nat} (hi : zInc cd) (hp : p < cd.length) (hm : (cd.getD p zp0).1 = m) : zPl (cd.eraseIdx p) m p := by
  refine ⟨by rw [del_len hp]; omega, fun i h => ?_, fun i h1 h2 => ?_⟩
  · rw [del_get, if_pos h, ← hm]
    exact hi i p h hp
  · rw [del_len hp] at h2
    rw [del_get, if_neg (by omega), ← hm]
    exact hi p (i + 1) (by omega) (by omega)
