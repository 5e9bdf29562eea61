/-! PURE: the class pairs, and lays the pieces. My own text. -/
/-- the pieces of a span, how many quarters of it are worked -/
def zPc (R : Int → Int) (s : zP2) : List zP2 := if 0 < R 1 ∧ R 1 < s.2 - s.1 then (s.1, s.1 + R 1) :: (if s.1 + R 1 + R 2 < s.2 then [(s.1 + R 1 + R 2, s.2)] else []) else if s.1 < s.2 then [s] else []
def zWc (R : Int → Int) (s : zP2) : Int := if 0 < R 1 ∧ R 1 < s.2 - s.1 then R 1 + (if s.1 + R 1 + R 2 < s.2 then s.2 - (s.1 + R 1 + R 2) else 0) else s.2 - s.1
def zPs (R : Int → Int) (sp : List zP2) : List zP2 := sp.flatMap (zPc R)
theorem zPs_sn {R : Int → Int} {sp : List zP2} {s : zP2} : zPs R (sp ++ [s]) = zPs R sp ++ zPc R s := by
  unfold zPs
  rw [List.flatMap_append, List.flatMap_cons, List.flatMap_nil, List.append_nil]
theorem zPc_len {R : Int → Int} {s : zP2} : (zPc R s).length ≤ 2 := by
  unfold zPc
  repeat' split
  all_goals simp
theorem c_put {P : Nat} {l : List zP2} {v : zHp} {b e : Int} (h : zCdC v P l) (hl : l.length < 60) (hb : -10000 ≤ b ∧ b ≤ 10000 ∧ -10000 ≤ e ∧ e ≤ 10000) : ∃ v', fX4_put v P b e = some (v', if b < e then e - b else 0) ∧ zCdC v' P (if b < e then l ++ [(b, e)] else l) ∧ (∀ a, a ≠ P → a ≠ P + 1 → a ≠ P + 2 → v' a = v a) := by
  unfold fX4_put
  by_cases h1 : b < e
  · obtain ⟨h2, h3⟩ := h
    rw [if_neg (by omega), if_pos (by omega), h2, zck_pos (by omega), zb_e, zst_na (by omega), h2, zck_pos (by omega), zb_e, zst_na (by omega), zst_na (by omega), h2, zn_pos (by omega), zb_e, zn_pos (by omega), if_pos h1, if_pos h1]
    refine ⟨_, rfl, ⟨?_, fun i hi => ?_⟩, fun a a1 a2 a3 => ?_⟩
    · rw [zst_eq, sn_len]
      rfl
    · rw [sn_len] at hi
      rw [zst_na (by omega), zst_na (by omega), zst_if, zst_na (by omega), zst_if, zst_na (by omega)]
      by_cases a : i = l.length
      · have a2 : (i : Int) = (l.length : Int) := by omega
        rw [if_pos a2, if_pos a2, a, sn_eq]
        exact ⟨rfl, rfl⟩
      · have a2 : ¬ (i : Int) = (l.length : Int) := by omega
        rw [if_neg a2, if_neg a2, sn_lt (by omega)]
        exact h3 i (by omega)
    · funext j
      rw [zst_na a1, zst_na a3, zst_na a2]
  · rw [if_pos (by omega), if_neg h1, if_neg h1]
    exact ⟨v, rfl, h, fun a _ _ _ => rfl⟩
/-- the sheet's spans -/
def zSpC (R : Int → Int) (v : zHp) (a0 : Nat) (sp : List zP2) : Prop := v a0 5 = (sp.length : Int) ∧ ∀ i : Nat, i < sp.length → v (a0 + 2) (i : Int) = (sp.getD i zp0).1 ∧ v (a0 + 3) (i : Int) = (sp.getD i zp0).2 ∧ v (a0 + 4) (i : Int) = zWc R (sp.getD i zp0)
theorem c_addJ {R : Int → Int} {v : zHp} {a0 : Nat} {sp : List zP2} {b e : Int} (h : zSpC R v a0 sp) (hl : sp.length < 30) : ∃ v', fX8_addSpan_J106 v a0 b e (zWc R (b, e)) = some (v', 0) ∧ zSpC R v' a0 (sp ++ [(b, e)]) ∧ (∀ a, a ≠ a0 → a ≠ a0 + 2 → a ≠ a0 + 3 → a ≠ a0 + 4 → v' a = v a) ∧ ∀ j, j ≠ 5 → v' a0 j = v a0 j := by
  obtain ⟨h1, h2⟩ := h
  unfold fX8_addSpan_J106
  rw [h1, zck_pos (by omega), zb_e, zst_na (by omega), h1, zck_pos (by omega), zb_e, zst_na (by omega), zst_na (by omega), h1, zck_pos (by omega), zb_e, zst_na (by omega), zst_na (by omega), zst_na (by omega), h1, zn_pos (by omega), zb_e]
  refine ⟨_, rfl, ⟨?_, fun i hi => ?_⟩, fun a a1 a2 a3 a4 => ?_, fun j hj => ?_⟩
  · rw [zst_eq, sn_len]
    rfl
  · rw [sn_len] at hi
    have r2 : ∀ x : Int, zst (zst (zst (zst v (a0 + 2) (sp.length : Int) b) (a0 + 3) (sp.length : Int) e) (a0 + 4) (sp.length : Int) (zWc R (b, e))) a0 5 ((sp.length : Int) + 1) (a0 + 2) x = if x = (sp.length : Int) then b else v (a0 + 2) x := fun x => by rw [zst_na (by omega), zst_na (by omega), zst_na (by omega), zst_if]
    have r3 : ∀ x : Int, zst (zst (zst (zst v (a0 + 2) (sp.length : Int) b) (a0 + 3) (sp.length : Int) e) (a0 + 4) (sp.length : Int) (zWc R (b, e))) a0 5 ((sp.length : Int) + 1) (a0 + 3) x = if x = (sp.length : Int) then e else v (a0 + 3) x := fun x => by rw [zst_na (by omega), zst_na (by omega), zst_if, zst_na (by omega)]
    have r4 : ∀ x : Int, zst (zst (zst (zst v (a0 + 2) (sp.length : Int) b) (a0 + 3) (sp.length : Int) e) (a0 + 4) (sp.length : Int) (zWc R (b, e))) a0 5 ((sp.length : Int) + 1) (a0 + 4) x = if x = (sp.length : Int) then zWc R (b, e) else v (a0 + 4) x := fun x => by rw [zst_na (by omega), zst_if, zst_na (by omega), zst_na (by omega)]
    rw [r2, r3, r4]
    by_cases a : i = sp.length
    · have a2 : (i : Int) = (sp.length : Int) := by omega
      rw [if_pos a2, if_pos a2, if_pos a2, a, sn_eq]
      exact ⟨rfl, rfl, rfl⟩
    · have a2 : ¬ (i : Int) = (sp.length : Int) := by omega
      rw [if_neg a2, if_neg a2, if_neg a2, sn_lt (by omega)]
      exact h2 i (by omega)
  · funext j
    rw [zst_na a1, zst_na a4, zst_na a3, zst_na a2]
  · rw [zst_nj hj, zst_na (by omega), zst_na (by omega), zst_na (by omega)]
theorem c_addSpan {R : Int → Int} {ru a0 c P : Nat} {v : zHp} {sp : List zP2} {b e : Int} (hR : zWR R) (hr : zRC ru v R) (hs : zSC a0 c) (hP : v a0 9 = (P : Int)) (hP2 : P = a0 + 8 ∨ P = a0 + 11) (h : zSpC R v a0 sp) (hp : zCdC v P (zPs R sp)) (hl : sp.length < 30) (hpl : (zPs R sp).length ≤ 2 * sp.length) (hb : 0 ≤ b ∧ b ≤ e ∧ e ≤ zQA R 28) : ∃ v', fX8_addSpan v a0 b e ru = some (v', 0) ∧ zSpC R v' a0 (sp ++ [(b, e)]) ∧ zCdC v' P (zPs R (sp ++ [(b, e)])) ∧ (∀ a, a ≠ a0 → a ≠ a0 + 2 → a ≠ a0 + 3 → a ≠ a0 + 4 → a ≠ P → a ≠ P + 1 → a ≠ P + 2 → v' a = v a) ∧ ∀ j, j ≠ 5 → v' a0 j = v a0 j := by
  obtain ⟨r0, r1, ⟨-, -, -, r2, r3, -⟩, -⟩ := hr
  have hq := @zQA_b R 28
  have hb2 := hR.2.1
  have hK : 0 ≤ (P : Int) ∧ zK P = (4, 3) := ⟨by omega, by rcases hP2 with h | h <;> rw [h]; exact hs.2.2.2.2.2.1; exact hs.2.2.2.2.2.2⟩
  have s1 := h.1
  have s28 := hs.1
  unfold fX8_addSpan
  rw [s1, if_pos (by omega), c_quartersAhead r1 hR.1 (by decide), zcl_e, show min e (zQA R 28) = e by omega, r2, hP, Int.toNat_natCast]
  unfold fX8_addSpan_J94
  rw [hP, Int.toNat_natCast]
  by_cases hm : 0 < R 1 ∧ R 1 < e - b
  · rw [if_neg (by omega), zn_pos (by omega), if_neg (by omega), zn_pos (by omega), zb_e, zck_pos hK, show min (b + R 1) e = b + R 1 by omega]
    obtain ⟨u, g1, g2, g3⟩ := c_put (b := b) (e := b + R 1) hp (by omega) (by omega)
    rw [if_pos (by omega)] at g1 g2
    rw [g1, zcl_e, g3 a0 (by omega) (by omega) (by omega), hP, Int.toNat_natCast, zb_e, zck_pos hK, g3 ru (by omega) (by omega) (by omega), r3, zn_pos (by omega)]
    obtain ⟨u', q1, q2, q3⟩ := c_put (b := b + R 1 + R 2) (e := e) g2 (by rw [sn_len]; omega) (by omega)
    have hsu : zSpC R u' a0 sp := by
      unfold zSpC
      rw [q3 a0 (by omega) (by omega) (by omega), q3 (a0 + 2) (by omega) (by omega) (by omega), q3 (a0 + 3) (by omega) (by omega) (by omega), q3 (a0 + 4) (by omega) (by omega) (by omega), g3 a0 (by omega) (by omega) (by omega), g3 (a0 + 2) (by omega) (by omega) (by omega), g3 (a0 + 3) (by omega) (by omega) (by omega), g3 (a0 + 4) (by omega) (by omega) (by omega)]
      exact h
    obtain ⟨v', w1, w2, w3, w4⟩ := c_addJ (b := b) (e := e) hsu hl
    have ew : b + R 1 - b + (if b + R 1 + R 2 < e then e - (b + R 1 + R 2) else 0) = zWc R (b, e) := by
      unfold zWc
      rw [if_pos hm]
      show _ = R 1 + (if b + R 1 + R 2 < e then e - (b + R 1 + R 2) else 0)
      omega
    refine ⟨v', ?_, w2, ?_, fun a a1 a2 a3 a4 a5 a6 a7 => by rw [w3 a a1 a2 a3 a4, q3 a a5 a6 a7, g3 a a5 a6 a7], fun j hj => by rw [w4 j hj, q3 a0 (by omega) (by omega) (by omega), g3 a0 (by omega) (by omega) (by omega)]⟩
    · rw [q1, zcl_e, ew, zn_pos (by unfold zWc; split <;> (try split) <;> omega)]
      exact w1
    · unfold zCdC
      rw [w3 P (by omega) (by omega) (by omega) (by omega), w3 (P + 1) (by omega) (by omega) (by omega) (by omega), w3 (P + 2) (by omega) (by omega) (by omega) (by omega)]
      have ep : zPs R (sp ++ [(b, e)]) = if b + R 1 + R 2 < e then zPs R sp ++ [(b, b + R 1)] ++ [(b + R 1 + R 2, e)] else zPs R sp ++ [(b, b + R 1)] := by
        rw [zPs_sn]
        unfold zPc
        rw [if_pos hm]
        show zPs R sp ++ ((b, b + R 1) :: (if b + R 1 + R 2 < e then [(b + R 1 + R 2, e)] else [])) = _
        split
        · rw [List.append_assoc]
          rfl
        · rfl
      rw [ep]
      exact q2
  · have hj : zb P (fun u4 => zck (0 ≤ (P : Int) ∧ zK u4 = (4, 3)) <| zcl (fX4_put v u4 b e) fun v6 r7 => fX8_addSpan_J106 v6 a0 b e r7) = zcl (fX4_put v P b e) fun v6 r7 => fX8_addSpan_J106 v6 a0 b e r7 := by
      rw [zb_e, zck_pos hK]
    obtain ⟨u, g1, g2, g3⟩ := c_put (b := b) (e := e) hp (by omega) (by omega)
    have hsu : zSpC R u a0 sp := by
      unfold zSpC
      rw [g3 a0 (by omega) (by omega) (by omega), g3 (a0 + 2) (by omega) (by omega) (by omega), g3 (a0 + 3) (by omega) (by omega) (by omega), g3 (a0 + 4) (by omega) (by omega) (by omega)]
      exact h
    obtain ⟨v', w1, w2, w3, w4⟩ := c_addJ (b := b) (e := e) hsu hl
    have ew : (if b < e then e - b else 0) = zWc R (b, e) := by
      unfold zWc
      rw [if_neg hm]
      show _ = e - b
      split <;> omega
    refine ⟨v', ?_, w2, ?_, fun a a1 a2 a3 a4 a5 a6 a7 => by rw [w3 a a1 a2 a3 a4, g3 a a5 a6 a7], fun j hj => by rw [w4 j hj, g3 a0 (by omega) (by omega) (by omega)]⟩
    · rw [hj]
      have : ∀ x : Option (zHp × Int), (if R 1 ≤ 0 then (zcl (fX4_put v P b e) fun v6 r7 => fX8_addSpan_J106 v6 a0 b e r7) else zn (e - b) fun t17 => if t17 ≤ R 1 then (zcl (fX4_put v P b e) fun v6 r7 => fX8_addSpan_J106 v6 a0 b e r7) else x) = zcl (fX4_put v P b e) fun v6 r7 => fX8_addSpan_J106 v6 a0 b e r7 := fun x => by
        by_cases h1 : R 1 ≤ 0
        · rw [if_pos h1]
        · rw [if_neg h1, zn_pos (by omega), if_pos (by omega)]
      rw [this, g1, zcl_e, ew]
      exact w1
    · unfold zCdC
      rw [w3 P (by omega) (by omega) (by omega) (by omega), w3 (P + 1) (by omega) (by omega) (by omega) (by omega), w3 (P + 2) (by omega) (by omega) (by omega) (by omega)]
      have ep : zPs R (sp ++ [(b, e)]) = if b < e then zPs R sp ++ [(b, e)] else zPs R sp := by
        rw [zPs_sn]
        unfold zPc
        rw [if_neg hm]
        show zPs R sp ++ (if b < e then [(b, e)] else []) = _
        split
        · rfl
        · rw [List.append_nil]
      rw [ep]
      exact g2
theorem c_rounded {R : Int → Int} {ru : Nat} {v : zHp} (hr : zRC ru v R) {m : Int} (hm : 0 ≤ m ∧ m ≤ 1000000) : fX7_rounded v ru m = some (v, zRq R m) := by
  unfold fX7_rounded zRq
  rw [hr.2.2.1.2.2.1, Int.tmod_eq_emod_of_nonneg hm.1, Int.tdiv_eq_ediv_of_nonneg hm.1, zn_pos (by omega)]
  by_cases h : m % 15 ≤ R 0
  · rw [if_neg (by omega), if_pos h, Int.add_zero]
  · rw [if_pos (by omega), if_neg h]
theorem zPs_len {R : Int → Int} {sp : List zP2} : (zPs R sp).length ≤ 2 * sp.length := by
  unfold zPs
  induction sp with
  | nil => simp
  | cons a t ih =>
    rw [List.flatMap_cons, List.length_append, List.length_cons]
    have := zPc_len (R := R) (s := a)
    omega
set_option maxHeartbeats 4000000 in
theorem pairUp_L {ru a0 c P : Nat} {cd : List zP2} {R : Int → Int} (hs : zSC a0 c) (hP2 : P = a0 + 8 ∨ P = a0 + 11) (hR : zWR R) (hok : zCdOk R cd) : ∀ (d fu k : Nat) (v : zHp), k + d = cd.length → d < fu → zRC ru v R → v a0 9 = (P : Int) → zCdC v c cd → zSpC R v a0 (zSp R cd k) → zCdC v P (zPs R (zSp R cd k)) → (∀ j : Nat, j < k → v (a0 + 1) (j : Int) = zRo R cd k j) → ∃ v', fX8_pairUp_L10 fu v a0 c ru (zOp R cd k) (k : Int) = some (v', 0) ∧ zSpC R v' a0 (zSp R cd cd.length) ∧ zCdC v' P (zPs R (zSp R cd cd.length)) ∧ (∀ j : Nat, j < cd.length → v' (a0 + 1) (j : Int) = zRo R cd cd.length j) ∧ (∀ a, a ≠ a0 → a ≠ a0 + 1 → a ≠ a0 + 2 → a ≠ a0 + 3 → a ≠ a0 + 4 → a ≠ P → a ≠ P + 1 → a ≠ P + 2 → v' a = v a) ∧ ∀ j, j ≠ 5 → v' a0 j = v a0 j
  | 0, fu, k, v, h1, h2, h3, h4, h5, h6, h7, h8 => by
    obtain ⟨f, rfl⟩ : ∃ f, fu = f + 1 := ⟨fu - 1, by omega⟩
    have hk : k = cd.length := by omega
    have hs0 := h5.1
    refine ⟨v, ?_, by rw [← hk]; exact h6, by rw [← hk]; exact h7, by rw [← hk]; exact h8, fun a _ _ _ _ _ _ _ _ => rfl, fun j _ => rfl⟩
    rw [fX8_pairUp_L10.eq_2, if_pos (by omega)]
  | d + 1, fu, k, v, h1, h2, h3, h4, h5, h6, h7, h8 => by
    obtain ⟨f, rfl⟩ : ∃ f, fu = f + 1 := ⟨fu - 1, by omega⟩
    have hs0 := h5.1
    have hl := hok.1
    obtain ⟨s1, s2, s3, s4, s5, -, -⟩ := id hs
    have hr0 := h3.1
    obtain ⟨v1, v2⟩ := h5.2 k (by omega)
    obtain ⟨k1, k2, k3, k4⟩ := hok.2.2 k (by omega)
    have hr3 := hR.2.1
    have hq := @zQA_b R 28
    have ho := zOp_b (R := R) (cd := cd) k
    have hlen := zSp_len (R := R) (cd := cd) k
    have e1 : (k : Int) + 1 = ((k + 1 : Nat) : Int) := by omega
    have n1 : ∀ a, a ≠ a0 + 1 → zst v (a0 + 1) (k : Int) 2 a = v a := fun a ha => by funext j; exact zst_na ha
    have r8 : v ru 8 = R 3 := h3.2.2.1.2.2.2.2.2.1
    rw [fX8_pairUp_L10.eq_2, if_neg (by omega), zck_pos (by omega), zck_pos (by omega), zb_e, v2, n1 ru (by omega), n1 (c + 1) (by omega), r8, v1]
    by_cases hc : zCl R cd k (zOp R cd k)
    · obtain ⟨c1, c2, c3⟩ := hc
      have ho2 : (zOp R cd k).toNat < k := by omega
      have ho3 : zOp R cd k = (((zOp R cd k).toNat : Nat) : Int) := by omega
      obtain ⟨w1, w2⟩ := h5.2 (zOp R cd k).toNat (by omega)
      obtain ⟨o1, o2, o3, o4⟩ := hok.2.2 (zOp R cd k).toNat (by omega)
      have o5 := hok.2.1 (zOp R cd k).toNat k ho2 (by omega)
      rw [← ho3] at w1
      have q1 := zRq_b (R := R) ⟨hr3.1, hr3.2.1⟩ ⟨o1, o2⟩
      have q2 := zRq_b (R := R) ⟨hr3.1, hr3.2.1⟩ ⟨k1, k2⟩
      have q3 := zRq_mono (R := R) (Int.le_of_lt o5)
      rw [if_neg c1] at hlen
      rw [if_neg c2, if_pos c1, zck_pos (by omega), zck_pos (by omega), w1, zn_pos (by omega), zn_pos (by omega), if_neg (by omega), zck_pos (by omega), zb_e, zck_pos (by omega), zb_e, zck_pos (by omega)]
      have na : ∀ a, a ≠ a0 + 1 → zst (zst (zst v (a0 + 1) (k : Int) 2) (a0 + 1) (zOp R cd k) 0) (a0 + 1) (k : Int) 1 a = v a := fun a ha => by funext j; rw [zst_na ha, zst_na ha, zst_na ha]
      have r1 : ∀ j : Int, zst (zst (zst v (a0 + 1) (k : Int) 2) (a0 + 1) (zOp R cd k) 0) (a0 + 1) (k : Int) 1 (a0 + 1) j = if j = (k : Int) then 1 else if j = zOp R cd k then 0 else v (a0 + 1) j := fun j => by
        rw [zst_if, zst_if, zst_if]
        by_cases a : j = (k : Int)
        · rw [if_pos a, if_pos a]
        · rw [if_neg a, if_neg a, if_neg a]
      generalize zst (zst (zst v (a0 + 1) (k : Int) 2) (a0 + 1) (zOp R cd k) 0) (a0 + 1) (k : Int) 1 = u at na r1 ⊢
      have hru : zRC ru u R := h3.of hR fun a a1 a2 => na a (by omega)
      rw [na (c + 1) (by omega), w1, c_rounded hru (by omega), zcl_e, zck_pos (by omega), na (c + 1) (by omega), v1, c_rounded hru (by omega), zcl_e]
      have hsu : zSpC R u a0 (zSp R cd k) := by
        unfold zSpC
        rw [na a0 (by omega), na (a0 + 2) (by omega), na (a0 + 3) (by omega), na (a0 + 4) (by omega)]
        exact h6
      have hpu : zCdC u P (zPs R (zSp R cd k)) := by
        unfold zCdC
        rw [na P (by omega), na (P + 1) (by omega), na (P + 2) (by omega)]
        exact h7
      obtain ⟨x, g1, g2, g3, g4, g5⟩ := c_addSpan (b := zRq R (cd.getD (zOp R cd k).toNat zp0).1) (e := zRq R (cd.getD k zp0).1) hR hru hs (by rw [na a0 (by omega)]; exact h4) hP2 hsu hpu (by omega) zPs_len ⟨q1.1, q3, q2.2⟩
      rw [g1, zcl_e, zn_pos (by omega), e1]
      have eSp : zSp R cd (k + 1) = zSp R cd k ++ [(zRq R (cd.getD (zOp R cd k).toNat zp0).1, zRq R (cd.getD k zp0).1)] := if_pos ⟨c1, c2, c3⟩
      have eOp : zOp R cd (k + 1) = -1 := if_pos ⟨c1, c2, c3⟩
      have eRo : ∀ j, zRo R cd (k + 1) j = if j = k then 1 else if (j : Int) = zOp R cd k then 0 else zRo R cd k j := fun j => if_pos ⟨c1, c2, c3⟩
      have nb : ∀ a, a ≠ a0 → a ≠ a0 + 1 → a ≠ a0 + 2 → a ≠ a0 + 3 → a ≠ a0 + 4 → a ≠ P → a ≠ P + 1 → a ≠ P + 2 → x a = v a := fun a a1 a2 a3 a4 a5 a6 a7 a8 => by rw [g4 a a1 a3 a4 a5 a6 a7 a8, na a a2]
      have nc : ∀ j, j ≠ 5 → x a0 j = v a0 j := fun j hj => by rw [g5 j hj, na a0 (by omega)]
      obtain ⟨v', y1, y2, y3, y4, y5, y6⟩ := pairUp_L (c := c) hs hP2 hR hok d f (k + 1) x (by omega) (by omega) (h3.of hR fun a a1 a2 => nb a (by omega) (by omega) (by omega) (by omega) (by omega) (by omega) (by omega) (by omega)) (by rw [nc 9 (by decide)]; exact h4) (by
        unfold zCdC
        rw [nb c (by omega) (by omega) (by omega) (by omega) (by omega) (by omega) (by omega) (by omega), nb (c + 1) (by omega) (by omega) (by omega) (by omega) (by omega) (by omega) (by omega) (by omega), nb (c + 2) (by omega) (by omega) (by omega) (by omega) (by omega) (by omega) (by omega) (by omega)]
        exact h5) (by rw [eSp]; exact g2) (by rw [eSp]; exact g3) (fun j hj => by
        rw [g4 (a0 + 1) (by omega) (by omega) (by omega) (by omega) (by omega) (by omega) (by omega), r1, eRo]
        by_cases a : j = k
        · rw [if_pos (by omega), if_pos a]
        · rw [if_neg (by omega), if_neg a]
          by_cases b : (j : Int) = zOp R cd k
          · rw [if_pos b, if_pos b]
          · rw [if_neg b, if_neg b]
            exact h8 j (by omega))
      rw [eOp] at y1
      exact ⟨v', y1, y2, y3, y4, fun a a1 a2 a3 a4 a5 a6 a7 a8 => by rw [y5 a a1 a2 a3 a4 a5 a6 a7 a8, nb a a1 a2 a3 a4 a5 a6 a7 a8], fun j hj => by rw [y6 j hj, nc j hj]⟩
    · have eSp : zSp R cd (k + 1) = zSp R cd k := if_neg hc
      have eOp : zOp R cd (k + 1) = if (cd.getD k zp0).2 = 1 then -1 else (k : Int) := if_neg hc
      have eRo : ∀ j, zRo R cd (k + 1) j = if j = k then 2 else zRo R cd k j := fun j => if_neg hc
      obtain ⟨v', g1, g2, g3, g4, g5, g6⟩ := pairUp_L (c := c) hs hP2 hR hok d f (k + 1) (zst v (a0 + 1) (k : Int) 2) (by omega) (by omega) (h3.of hR fun a a1 a2 => n1 a (by omega)) (by rw [n1 a0 (by omega)]; exact h4) (by
        unfold zCdC
        rw [n1 c (by omega), n1 (c + 1) (by omega), n1 (c + 2) (by omega)]
        exact h5) (by
        rw [eSp]
        unfold zSpC
        rw [n1 a0 (by omega), n1 (a0 + 2) (by omega), n1 (a0 + 3) (by omega), n1 (a0 + 4) (by omega)]
        exact h6) (by
        rw [eSp]
        unfold zCdC
        rw [n1 P (by omega), n1 (P + 1) (by omega), n1 (P + 2) (by omega)]
        exact h7) (fun j hj => by
        rw [zst_if, eRo]
        by_cases a : j = k
        · rw [if_pos (by omega), if_pos a]
        · rw [if_neg (by omega), if_neg a]
          exact h8 j (by omega))
      refine ⟨v', ?_, g2, g3, g4, fun a a1 a2 a3 a4 a5 a6 a7 a8 => by rw [g5 a a1 a2 a3 a4 a5 a6 a7 a8, n1 a a2], fun j hj => by rw [g6 j hj, n1 a0 (by omega)]⟩
      rw [← g1, eOp]
      have eJ : fX8_pairUp_J46 (fX8_pairUp_L10 f) (zst v (a0 + 1) (k : Int) 2) a0 c ru (k : Int) (cd.getD k zp0).2 = fX8_pairUp_L10 f (zst v (a0 + 1) (k : Int) 2) a0 c ru (if (cd.getD k zp0).2 = 1 then -1 else (k : Int)) ((k + 1 : Nat) : Int) := by
        unfold fX8_pairUp_J46
        rw [zn_pos (by omega), zn_pos (by omega), e1]
        by_cases c2 : (cd.getD k zp0).2 = 1
        · rw [if_neg (by omega), if_pos c2]
        · rw [if_pos c2, if_neg c2]
      rw [eJ]
      by_cases c2 : (cd.getD k zp0).2 = 0
      · rw [if_pos c2]
      rw [if_neg c2]
      by_cases c1 : zOp R cd k = -1
      · rw [if_neg (by omega)]
      · have ho3 : zOp R cd k = (((zOp R cd k).toNat : Nat) : Int) := by omega
        obtain ⟨w1, w2⟩ := h5.2 (zOp R cd k).toNat (by omega)
        obtain ⟨o1, o2, o3, o4⟩ := hok.2.2 (zOp R cd k).toNat (by omega)
        rw [← ho3] at w1
        have c3 : ¬ (cd.getD k zp0).1 - (cd.getD (zOp R cd k).toNat zp0).1 ≤ 60 * R 3 := fun h => hc ⟨c1, c2, h⟩
        rw [if_pos c1, zck_pos (by omega), zck_pos (by omega), w1, zn_pos (by omega), zn_pos (by omega), if_pos (by omega), zn_pos (by omega), zn_pos (by omega), e1]
        by_cases c4 : (cd.getD k zp0).2 = 1
        · rw [if_neg (by omega), if_pos c4]
        · rw [if_pos c4, if_neg c4]
theorem c_pairUp {ru a0 c P : Nat} {cd : List zP2} {R : Int → Int} {v : zHp} (hs : zSC a0 c) (hP2 : P = a0 + 8 ∨ P = a0 + 11) (hR : zWR R) (hok : zCdOk R cd) (h3 : zRC ru v R) (h4 : v a0 9 = (P : Int)) (h5 : zCdC v c cd) (h6 : v P 2 = 0) : ∃ v', fX8_pairUp v a0 c ru = some (v', 0) ∧ zSpC R v' a0 (zSp R cd cd.length) ∧ zCdC v' P (zPs R (zSp R cd cd.length)) ∧ (∀ j : Nat, j < cd.length → v' (a0 + 1) (j : Int) = zRo R cd cd.length j) ∧ (∀ a, a ≠ a0 → a ≠ a0 + 1 → a ≠ a0 + 2 → a ≠ a0 + 3 → a ≠ a0 + 4 → a ≠ P → a ≠ P + 1 → a ≠ P + 2 → v' a = v a) ∧ ∀ j, j ≠ 5 → v' a0 j = v a0 j := by
  obtain ⟨s1, s2, s3, s4, s5, -, -⟩ := id hs
  have hr0 := h3.1
  have n : ∀ a, a ≠ a0 → zst v a0 5 0 a = v a := fun a ha => by funext j; exact zst_na ha
  obtain ⟨v', g1, g2, g3, g4, g5, g6⟩ := pairUp_L (c := c) (ru := ru) (P := P) hs hP2 hR hok cd.length zFU 0 (zst v a0 5 0) (by omega) (zFU_lt (by have := hok.1; omega)) (h3.of hR fun a a1 a2 => n a (by omega)) (by rw [zst_nj (by decide)]; exact h4) (by
    unfold zCdC
    rw [n c (by omega), n (c + 1) (by omega), n (c + 2) (by omega)]
    exact h5) ⟨zst_eq, fun i h => absurd h (Nat.not_lt_zero _)⟩ ⟨by rw [n P (by omega)]; exact h6, fun i h => absurd h (Nat.not_lt_zero _)⟩ (fun j h => absurd h (Nat.not_lt_zero _))
  refine ⟨v', ?_, g2, g3, g4, fun a a1 a2 a3 a4 a5 a6 a7 a8 => by rw [g5 a a1 a2 a3 a4 a5 a6 a7 a8, n a a1], fun j hj => by rw [g6 j hj, zst_nj hj]⟩
  unfold fX8_pairUp
  rw [zb_e]
  show zl (fX8_pairUp_L10 zFU (zst v a0 5 0) a0 c ru (zOp R cd 0) ((0 : Nat) : Int)) _ = _
  rw [g1]
  rfl
