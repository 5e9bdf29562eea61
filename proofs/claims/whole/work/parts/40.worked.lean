/-! PURE: what is worked; the reference's row of marks. My own text. -/
abbrev zIn (p : zP2) (q : Int) : Bool := decide (p.1 ≤ q) && decide (q < p.2)
def zWd (ps : List zP2) (q : Int) : Bool := ps.any fun p => zIn p q
theorem zIn_iff {p : zP2} {q : Int} : zIn p q = true ↔ p.1 ≤ q ∧ q < p.2 := by
  unfold zIn
  rw [Bool.and_eq_true, decide_eq_true_iff, decide_eq_true_iff]
theorem zWd_app {a b : List zP2} {q : Int} : zWd (a ++ b) q = (zWd a q || zWd b q) := by
  unfold zWd
  rw [List.any_append]
theorem zWd_iff {ps : List zP2} {q : Int} : zWd ps q = true ↔ ∃ i : Nat, i < ps.length ∧ (ps.getD i zp0).1 ≤ q ∧ q < (ps.getD i zp0).2 := by
  unfold zWd
  rw [List.any_eq_true]
  constructor
  · rintro ⟨x, hx, h⟩
    obtain ⟨i, hi, e⟩ := List.mem_iff_getElem.mp hx
    refine ⟨i, hi, ?_⟩
    rw [List.getD_eq_getElem?_getD, List.getElem?_eq_getElem hi, e]
    exact zIn_iff.mp h
  · rintro ⟨i, hi, h⟩
    refine ⟨ps.getD i zp0, ?_, zIn_iff.mpr h⟩
    rw [List.getD_eq_getElem?_getD, List.getElem?_eq_getElem hi]
    exact List.getElem_mem hi
/-- whether a quarter of a span is worked by it -/
abbrev zSw (R : Int → Int) (s : zP2) (q : Int) : Prop := s.1 ≤ q ∧ q < s.2 ∧ ¬ (0 < R 1 ∧ R 1 < s.2 - s.1 ∧ R 1 ≤ q - s.1 ∧ q - s.1 < R 1 + R 2)
theorem zPc_wd {R : Int → Int} (h2 : 0 ≤ R 2) {s : zP2} {q : Int} : zWd (zPc R s) q = decide (zSw R s q) := by
  have e : zWd (zPc R s) q = true ↔ zSw R s q := by
    unfold zWd zPc zSw
    by_cases h : 0 < R 1 ∧ R 1 < s.2 - s.1
    · rw [if_pos h, List.any_cons, Bool.or_eq_true, zIn_iff]
      by_cases h3 : s.1 + R 1 + R 2 < s.2
      · rw [if_pos h3, List.any_cons, List.any_nil, Bool.or_false, zIn_iff]
        show (s.1 ≤ q ∧ q < s.1 + R 1) ∨ (s.1 + R 1 + R 2 ≤ q ∧ q < s.2) ↔ _
        omega
      · rw [if_neg h3, List.any_nil]
        show (s.1 ≤ q ∧ q < s.1 + R 1) ∨ (false = true) ↔ _
        simp only [Bool.false_eq_true, or_false]
        omega
    · rw [if_neg h]
      by_cases h3 : s.1 < s.2
      · rw [if_pos h3, List.any_cons, List.any_nil, Bool.or_false, zIn_iff]
        omega
      · rw [if_neg h3, List.any_nil]
        simp only [Bool.false_eq_true, false_iff]
        omega
  by_cases h : zSw R s q
  · rw [decide_eq_true h]
    exact e.mpr h
  · rw [decide_eq_false h]
    exact Bool.eq_false_iff.mpr fun h3 => h (e.mp h3)
theorem tk_sn {α : Type} {l : List α} {d : α} {i : Nat} (h : i < l.length) : l.take (i + 1) = l.take i ++ [l.getD i d] := by
  rw [List.take_succ_eq_append_getElem h, List.getD_eq_getElem?_getD, List.getElem?_eq_getElem h]
  rfl
theorem m_isOfDays {v : zHp} (hR : zWk (v 139)) {q : Int} (hq : 0 ≤ q ∧ q < zQA (v 139) 28) : fX12_isOfDays v q = some (v, 1) := by
  have hb := @zQA_b (v 139) 28
  have h := (zTo_in (R := v 139) hR (m := 15 * q) (by omega)).mpr (by omega)
  unfold fX12_isOfDays
  rw [zn_pos (by omega), m_toldAt hR (by omega), zcl_e, if_pos (by omega : 0 ≤ 15 * q ∧ 0 ≤ zTo (v 139) (15 * q) ∧ zTo (v 139) (15 * q) ≤ 40319), if_neg (by omega)]
theorem m_isOfSpan {v : zHp} (hR : zWR (v 139)) {sp : List zP2} (hs : zSpM v sp) (hl : sp.length ≤ 30) {i : Nat} (hi : i < sp.length) {q : Int} (hb : 0 ≤ (sp.getD i zp0).1 ∧ (sp.getD i zp0).2 ≤ zQA (v 139) 28) (hq : (sp.getD i zp0).1 ≤ q ∧ q < (sp.getD i zp0).2) : fX12_isOfSpan v (i : Int) q = some (v, if zSw (v 139) (sp.getD i zp0) q then 1 else 0) := by
  obtain ⟨s1, s2⟩ := hs.2 i hi
  have hr := hR.2.1
  have hz := @zQA_b (v 139) 28
  have e0 : fX12_isOfSpan_J76 v q 0 = some (v, 1) := by
    unfold fX12_isOfSpan_J76
    rw [if_neg (by decide), m_isOfDays hR.1 (by omega), zcl_e, if_neg (by decide)]
  have e1 : fX12_isOfSpan_J76 v q 1 = some (v, 0) := by
    unfold fX12_isOfSpan_J76
    rw [if_pos (by decide)]
  unfold fX12_isOfSpan fX12_isOfSpan_J75
  rw [e0, e1, s1, s2, zck_pos (by omega), zn_pos (by omega), zck_pos (by omega), zck_pos (by omega), zn_pos (by omega), zck_pos (by decide), zck_pos (by decide), zck_pos (by decide), zck_pos (by decide), zck_pos (by decide), zn_pos (by omega)]
  unfold zSw
  repeat' split
  all_goals first | rfl | (exfalso; omega)
theorem worked_0 : ∀ (d fu x : Nat) (v : zHp), x + d = 2720 → d < fu → ∃ v', fX12_laysWorked_L7 fu v (x : Int) = some (v', 0) ∧ (∀ j : Int, v' 148 j = if (x : Int) ≤ j ∧ j < 2720 then 0 else v 148 j) ∧ ∀ a, a ≠ 148 → v' a = v a
  | 0, fu, x, v, h1, h2 => by
    obtain ⟨k, rfl⟩ : ∃ k, fu = k + 1 := ⟨fu - 1, by omega⟩
    refine ⟨v, ?_, fun j => ?_, fun a _ => rfl⟩
    · rw [fX12_laysWorked_L7.eq_2, if_pos (by omega)]
    · rw [if_neg (by omega)]
  | d + 1, fu, x, v, h1, h2 => by
    obtain ⟨k, rfl⟩ : ∃ k, fu = k + 1 := ⟨fu - 1, by omega⟩
    rw [fX12_laysWorked_L7.eq_2, if_neg (by omega), zck_pos (by omega), zb_e, zn_pos (by omega), show (x : Int) + 1 = ((x + 1 : Nat) : Int) by omega]
    obtain ⟨v', g1, g2, g3⟩ := worked_0 d k (x + 1) (zst v 148 (x : Int) 0) (by omega) (by omega)
    refine ⟨v', g1, fun j => ?_, fun a ha => by rw [g3 a ha]; funext j; exact zst_na ha⟩
    rw [g2 j, zst_if]
    by_cases h5 : ((x + 1 : Nat) : Int) ≤ j ∧ j < 2720
    · rw [if_pos h5, if_pos (by omega)]
    · rw [if_neg h5]
      by_cases h6 : j = (x : Int)
      · rw [if_pos h6, if_pos (by omega)]
      · rw [if_neg h6, if_neg (by omega)]
theorem worked_1 {R : Int → Int} (hR : zWR R) {sp : List zP2} (hl : sp.length ≤ 30) {i : Nat} (hi : i < sp.length) (hb : 0 ≤ (sp.getD i zp0).1 ∧ (sp.getD i zp0).2 ≤ zQA R 28) : ∀ (d fu : Nat) (q : Int) (v : zHp), q + (d : Int) = (sp.getD i zp0).2 → (sp.getD i zp0).1 ≤ q → d < fu → v 139 = R → zSpM v sp → ∃ v', fX12_laysWorked_L44 fu v (i : Int) q = some (v', 0) ∧ (∀ j : Int, v' 148 j = if q ≤ j ∧ j < (sp.getD i zp0).2 then (if v 148 j ≠ 0 ∨ zSw R (sp.getD i zp0) j then 1 else 0) else v 148 j) ∧ ∀ a, a ≠ 148 → v' a = v a
  | 0, fu, q, v, h1, h2, h3, h4, h5 => by
    obtain ⟨k, rfl⟩ : ∃ k, fu = k + 1 := ⟨fu - 1, by omega⟩
    obtain ⟨s1, s2⟩ := h5.2 i hi
    refine ⟨v, ?_, fun j => ?_, fun a _ => rfl⟩
    · rw [fX12_laysWorked_L44.eq_2, zck_pos (by omega), if_pos (by omega)]
    · rw [if_neg (by omega)]
  | d + 1, fu, q, v, h1, h2, h3, h4, h5 => by
    obtain ⟨k, rfl⟩ : ∃ k, fu = k + 1 := ⟨fu - 1, by omega⟩
    obtain ⟨s1, s2⟩ := h5.2 i hi
    have hz := @zQA_b R 28
    have n : ∀ x a, a ≠ 148 → zst v 148 q x a = v a := fun x a ha => by funext j; exact zst_na ha
    have hsp : ∀ x, zSpM (zst v 148 q x) sp := fun x => by
      unfold zSpM
      rw [n x 137 (by decide), n x 146 (by decide), n x 147 (by decide)]
      exact h5
    rw [fX12_laysWorked_L44.eq_2, zck_pos (by omega), if_neg (by omega), zck_pos (by omega), zck_pos (by omega), zb_e, zn_pos (by omega), m_isOfSpan (by rw [h4]; exact hR) h5 hl hi (by rw [h4]; exact hb) ⟨h2, by omega⟩, zcl_e, h4, zck_pos (by omega), zck_pos (by omega), zb_e, zb_e]
    have key : ∃ x : Int, x = (if v 148 q ≠ 0 ∨ zSw R (sp.getD i zp0) q then 1 else 0) ∧ (if v 148 q ≠ 0 then fX12_laysWorked_L44 k (zst v 148 q 1) (i : Int) (q + 1) else if (if zSw R (sp.getD i zp0) q then 1 else 0) = (0 : Int) then zn (q + 1) fun t20 => fX12_laysWorked_L44 k (zst v 148 q 0) (i : Int) t20 else zn (q + 1) fun t23 => fX12_laysWorked_L44 k (zst v 148 q 1) (i : Int) t23) = fX12_laysWorked_L44 k (zst v 148 q x) (i : Int) (q + 1) := by
      by_cases a : v 148 q ≠ 0
      · exact ⟨1, by rw [if_pos (Or.inl a)], by rw [if_pos a]⟩
      · by_cases b : zSw R (sp.getD i zp0) q
        · exact ⟨1, by rw [if_pos (Or.inr b)], by rw [if_neg a, if_pos b, if_neg (by decide), zn_pos (by omega)]⟩
        · exact ⟨0, by rw [if_neg (by rintro (h | h); exact a h; exact b h)], by rw [if_neg a, if_neg b, if_pos rfl, zn_pos (by omega)]⟩
    obtain ⟨x, hx, e⟩ := key
    obtain ⟨v', g1, g2, g3⟩ := worked_1 hR hl hi hb d k (q + 1) (zst v 148 q x) (by omega) (by omega) (by omega) (by rw [n x 139 (by decide)]; exact h4) (hsp x)
    refine ⟨v', ?_, fun j => ?_, fun a ha => by rw [g3 a ha, n x a ha]⟩
    · rw [← g1]
      exact e
    · rw [g2 j, zst_if]
      by_cases a : q + 1 ≤ j ∧ j < (sp.getD i zp0).2
      · rw [if_pos a, if_neg (by omega : ¬ j = q), if_pos (by omega : q ≤ j ∧ j < (sp.getD i zp0).2)]
      · rw [if_neg a]
        by_cases b : j = q
        · rw [if_pos b, if_pos (by omega), hx, b]
        · rw [if_neg b, if_neg (by omega)]
theorem worked_2 {R : Int → Int} (hR : zWR R) {sp : List zP2} (hl : sp.length ≤ 30) (hb : ∀ i : Nat, i < sp.length → 0 ≤ (sp.getD i zp0).1 ∧ (sp.getD i zp0).1 ≤ (sp.getD i zp0).2 ∧ (sp.getD i zp0).2 ≤ zQA R 28) : ∀ (d fu i : Nat) (v : zHp), i + d = sp.length → d < fu → v 139 = R → zSpM v sp → (∀ q : Int, 0 ≤ q → q < 2720 → v 148 q = if zWd (zPs R (sp.take i)) q then 1 else 0) → ∃ v', fX12_laysWorked_L29 fu v (i : Int) = some (v', 0) ∧ (∀ q : Int, 0 ≤ q → q < 2720 → v' 148 q = if zWd (zPs R sp) q then 1 else 0) ∧ ∀ a, a ≠ 148 → v' a = v a
  | 0, fu, i, v, h1, h2, h3, h4, h5 => by
    obtain ⟨k, rfl⟩ : ∃ k, fu = k + 1 := ⟨fu - 1, by omega⟩
    have hs := h4.1
    refine ⟨v, ?_, ?_, fun a _ => rfl⟩
    · rw [fX12_laysWorked_L29.eq_2, if_pos (by omega)]
    · rw [show i = sp.length by omega, List.take_length] at h5
      exact h5
  | d + 1, fu, i, v, h1, h2, h3, h4, h5 => by
    obtain ⟨k, rfl⟩ : ∃ k, fu = k + 1 := ⟨fu - 1, by omega⟩
    have hs := h4.1
    have hi : i < sp.length := by omega
    obtain ⟨s1, s2⟩ := h4.2 i hi
    obtain ⟨b1, b2, b3⟩ := hb i hi
    have hz := @zQA_b R 28
    obtain ⟨u, g1, g2, g3⟩ := worked_1 hR hl hi ⟨b1, b3⟩ ((sp.getD i zp0).2 - (sp.getD i zp0).1).toNat zFU (sp.getD i zp0).1 v (by omega) (Int.le_refl _) (zFU_lt (by omega)) h3 h4
    rw [fX12_laysWorked_L29.eq_2, if_neg (by omega), zck_pos (by omega), s1, g1, zl_e, zn_pos (by omega), show (i : Int) + 1 = ((i + 1 : Nat) : Int) by omega]
    obtain ⟨v', q1, q2, q3⟩ := worked_2 hR hl hb d k (i + 1) u (by omega) (by omega) (by rw [g3 139 (by decide)]; exact h3) (by
      unfold zSpM
      rw [g3 137 (by decide), g3 146 (by decide), g3 147 (by decide)]
      exact h4) (fun q a b => by
      rw [g2 q, h5 q a b, tk_sn (d := zp0) hi, zPs_sn, zWd_app, zPc_wd hR.2.1.2.2.2.2.1]
      by_cases c : (sp.getD i zp0).1 ≤ q ∧ q < (sp.getD i zp0).2
      · rw [if_pos c]
        by_cases e : zWd (zPs R (sp.take i)) q = true
        · rw [e]
          simp
        · rw [Bool.not_eq_true] at e
          rw [e]
          by_cases f : zSw R (sp.getD i zp0) q
          · rw [decide_eq_true f, if_pos (Or.inr f)]
            rfl
          · rw [decide_eq_false f]
            simp only [Bool.false_eq_true, if_false, Bool.or_false]
            rw [if_neg (by rintro (h | h); exact h rfl; exact f h)]
      · rw [if_neg c]
        have f : ¬ zSw R (sp.getD i zp0) q := fun h => c ⟨h.1, h.2.1⟩
        rw [decide_eq_false f, Bool.or_false])
    exact ⟨v', q1, q2, fun a ha => by rw [q3 a ha, g3 a ha]⟩
/-- what a card comes to: its spans, its pieces -/
abbrev zSpa (R : Int → Int) (cd : List zP2) : List zP2 := zSp R cd cd.length
abbrev zPcs (R : Int → Int) (cd : List zP2) : List zP2 := zPs R (zSpa R cd)
theorem m_laysWorked {w : Nat} {cd : List zP2} {v : zHp} (hw : w < 4) (hR : zWR (v 139)) (hok : zCdOk (v 139) cd) (hc : zCdM v (w : Int) cd) : ∃ v', fX12_laysWorked v (w : Int) = some (v', 0) ∧ zSpM v' (zSpa (v 139) cd) ∧ (∀ q : Int, 0 ≤ q → q < 2720 → v' 148 q = if zWd (zPcs (v 139) cd) q then 1 else 0) ∧ (∀ a, a ≠ 145 → a ≠ 146 → a ≠ 147 → a ≠ 148 → a ≠ 137 → v' a = v a) ∧ ∀ j, j ≠ 19 → v' 137 j = v 137 j := by
  obtain ⟨u, g1, g2, g3, g4, g5⟩ := m_pairs hw hR hok hc
  have hl := hok.1
  have hlen : (zSpa (v 139) cd).length ≤ 30 := by
    have := zSp_len (R := v 139) (cd := cd) cd.length
    show (zSp (v 139) cd cd.length).length ≤ 30
    omega
  have hsok := zSp_ok (R := v 139) ⟨hR.2.1.1, hR.2.1.2.1⟩ hok cd.length (Nat.le_refl _)
  obtain ⟨x, q1, q2, q3⟩ := worked_0 2720 zFU 0 u rfl (zFU_lt (by decide))
  have x139 : x 139 = v 139 := by rw [q3 139 (by decide), g4 139 (by decide) (by decide) (by decide) (by decide)]
  have hx : zSpM x (zSpa (v 139) cd) := by
    unfold zSpM
    rw [q3 137 (by decide), q3 146 (by decide), q3 147 (by decide)]
    exact g2
  obtain ⟨v', w1, w2, w3⟩ := worked_2 (sp := zSpa (v 139) cd) hR hlen hsok.1 (zSpa (v 139) cd).length zFU 0 x (by omega) (zFU_lt (by omega)) x139 hx (fun q a b => by
    rw [q2, if_pos (by omega)]
    rfl)
  refine ⟨v', ?_, ?_, w2, fun a a1 a2 a3 a4 a5 => by rw [w3 a a4, q3 a a4, g4 a a1 a2 a3 a5], fun j hj => by rw [w3 137 (by decide), q3 137 (by decide), g5 j hj]⟩
  · unfold fX12_laysWorked
    rw [g1, zcl_e, show (0 : Int) = ((0 : Nat) : Int) from rfl, q1, zl_e, w1]
    rfl
  · unfold zSpM
    rw [w3 137 (by decide), w3 146 (by decide), w3 147 (by decide)]
    exact hx
