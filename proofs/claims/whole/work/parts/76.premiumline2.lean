/-! PURE: a premium's line: its kind; the line whole. My own text. -/
theorem gd_kindOf {B : Nat → Int} {N ru T : Nat} {c0 m0 vC vM : zHp} {s e : Nat} {t : Int} (h : xGd B N ru T c0 m0 vC vM s e t) : ∃ r : Int, fX6_kindOf vC = some (vC, r) ∧ fX12_kindOf vM = some (vM, r) ∧ -1 ≤ r ∧ r ≤ 4 := by
  obtain ⟨r1, a1, a2, a3, _⟩ := gd_tells h xw_day
  obtain ⟨r2, b1, b2, b3, _⟩ := gd_tells h xw_week
  obtain ⟨r3, d1, d2, d3, _⟩ := gd_tells h xw_seventh
  obtain ⟨r4, f1, f2, f3, _⟩ := gd_tells h xw_night
  obtain ⟨r5, g1, g2, g3, _⟩ := gd_tells h xw_holiday
  unfold fX6_kindOf fX12_kindOf
  rw [a1, zcl_e, a2, zcl_e]
  by_cases x1 : r1 = 0
  · rw [if_pos x1, if_pos x1, b1, zcl_e, b2, zcl_e]
    by_cases x2 : r2 = 0
    · rw [if_pos x2, if_pos x2, d1, zcl_e, d2, zcl_e]
      by_cases x3 : r3 = 0
      · rw [if_pos x3, if_pos x3, f1, zcl_e, f2, zcl_e]
        by_cases x4 : r4 = 0
        · rw [if_pos x4, if_pos x4, g1, zcl_e, g2, zcl_e]
          by_cases x5 : r5 = 0
          · rw [if_pos x5, if_pos x5]
            exact ⟨-1, rfl, rfl, by decide, by decide⟩
          · rw [if_neg x5, if_neg x5]
            exact ⟨4, rfl, rfl, by decide, by decide⟩
        · rw [if_neg x4, if_neg x4]
          exact ⟨3, rfl, rfl, by decide, by decide⟩
      · rw [if_neg x3, if_neg x3]
        exact ⟨2, rfl, rfl, by decide, by decide⟩
    · rw [if_neg x2, if_neg x2]
      exact ⟨1, rfl, rfl, by decide, by decide⟩
  · rw [if_neg x1, if_neg x1]
    exact ⟨0, rfl, rfl, by decide, by decide⟩
/-- from behind the kind's word -/
def xKd (v7 : zHp) (a2 : Nat) : Option (zHp × Int) := if v7 a2 0 ≠ 0 then (if v7 a2 0 ≠ 1 then (if v7 a2 0 ≠ 3 then (some (v7, 0)) else (zcl (fX6_readNumber v7 0 23) fun v10 r11 => zb (zst v10 a2 3 r11) fun v13 => zcl (fX6_readNumber v13 0 23) fun v14 r15 => zb (zst v14 a2 4 r15) fun v17 => if v17 a2 4 ≠ v17 a2 3 then (some (v17, 0)) else (zcl (fX6_refuse v17 (v13 1 4) 2) fun v18 _ => some (v18, 0)))) else (zcl (fX6_readNumber v7 0 672) fun v21 r22 => zb (zst v21 a2 3 r22) fun v24 => some (v24, 0))) else (zcl (fX6_readNumber v7 0 96) fun v25 r26 => zb (zst v25 a2 3 r26) fun v28 => some (v28, 0))
theorem xKd_e (v : zHp) (a2 : Nat) (s2 : Int) : fX6_readKind_J33 v a2 s2 = zcl (fX6_passIf v s2) fun v7 _ => xKd v7 a2 := rfl
/-- the night's second number and what follows, behind a fault -/
theorem bd_kd2 {B : Nat → Int} {N ru : Nat} {F : Int} {v0 v : zHp} (h : xBd B N ru F v0 v) {U : Nat} (hU : ru ≤ U ∧ U ≤ ru + 11) : ∃ v', (zcl (fX6_readNumber v 0 23) fun v14 r15 => zb (zst v14 U 4 r15) fun v17 => if v17 U 4 ≠ v17 U 3 then (some (v17, (0 : Int))) else (zcl (fX6_refuse v17 (v 1 4) 2) fun v18 _ => some (v18, 0))) = some (v', 0) ∧ xBd B N ru F v0 v' := by
  obtain ⟨y, b1, _, _⟩ := bd_num h 0 23
  have h2 := bd_st h hU 4 y
  rw [b1, zcl_e, zb_e]
  by_cases c : zst v U 4 y U 4 ≠ zst v U 4 y U 3
  · rw [if_pos c]
    exact ⟨_, rfl, h2⟩
  · rw [if_neg c, c_ref0 h2.nf, zcl_e]
    exact ⟨_, rfl, h2⟩
theorem bd_kd {B : Nat → Int} {N ru : Nat} {F : Int} {v0 v : zHp} (h : xBd B N ru F v0 v) {U : Nat} (hU : ru ≤ U ∧ U ≤ ru + 11) : ∃ v', xKd v U = some (v', 0) ∧ xBd B N ru F v0 v' := by
  obtain ⟨x, a1, _, _⟩ := bd_num h 0 23
  obtain ⟨y, b1, _, _⟩ := bd_num h 0 672
  obtain ⟨z, d1, _, _⟩ := bd_num h 0 96
  obtain ⟨w, w1, w2⟩ := bd_kd2 (bd_st h hU 3 x) hU
  unfold xKd
  by_cases c0 : v U 0 = 0
  · rw [if_neg (fun g => g c0), d1, zcl_e, zb_e]
    exact ⟨_, rfl, bd_st h hU 3 z⟩
  · rw [if_pos c0]
    by_cases c1 : v U 0 = 1
    · rw [if_neg (fun g => g c1), b1, zcl_e, zb_e]
      exact ⟨_, rfl, bd_st h hU 3 y⟩
    · rw [if_pos c1]
      by_cases c3 : v U 0 = 3
      · rw [if_neg (fun g => g c3), a1, zcl_e, zb_e]
        exact ⟨w, w1, w2⟩
      · rw [if_pos c3]
        exact ⟨_, rfl, h⟩
def xMk (v : zHp) (x1 kd : Int) : Option (zHp × Int) := if kd ≤ 1 then (fX12_premiumLine_J90 v x1 kd) else (if kd ≠ 3 then (fX12_premiumLine_J134 v x1 kd) else (fX12_premiumLine_J90 v x1 kd))
theorem xFl.set3 {ru p : Nat} {kd f3 f4 : Int} {vC vM : zHp} (h : xFl ru p kd f3 f4 vC vM) (x : Int) : xFl ru p kd x f4 (zst vC (ru + 2 + (2 + 1 * p)) 3 x) (zst vM 140 (11 + 5 * (p : Int) + 3) x) := by
  obtain ⟨h1, h2, h3, h4, h5, h6⟩ := h
  exact ⟨by rw [zst_nj (by decide)]; exact h1, zst_eq, by rw [zst_nj (by decide)]; exact h3, by rw [zst_nj (by omega)]; exact h4, zst_eq, by rw [zst_nj (by omega)]; exact h6⟩
theorem xFl.set4 {ru p : Nat} {kd f3 f4 : Int} {vC vM : zHp} (h : xFl ru p kd f3 f4 vC vM) (x : Int) : xFl ru p kd f3 x (zst vC (ru + 2 + (2 + 1 * p)) 4 x) (zst vM 140 (11 + 5 * (p : Int) + 4) x) := by
  obtain ⟨h1, h2, h3, h4, h5, h6⟩ := h
  exact ⟨by rw [zst_nj (by decide)]; exact h1, by rw [zst_nj (by decide)]; exact h2, zst_eq, by rw [zst_nj (by omega)]; exact h4, by rw [zst_nj (by omega)]; exact h5, zst_eq⟩
def xKo (B : Nat → Int) (N ru T p : Nat) (c0 m0 vC vM : zHp) (s : Nat) (kd : Int) (co mo : Option (zHp × Int)) : Prop := (∃ vC' vM' s' e' t' f3 f4, co = some (vC', 0) ∧ mo = fX12_premiumLine_J192 vM' (11 + 5 * (p : Int)) ∧ xGd B N ru T c0 m0 vC' vM' s' e' t' ∧ s ≤ s' ∧ xFr ru p vC vM vC' vM' ∧ xFl ru p kd f3 f4 vC' vM' ∧ (-1 ≤ f3 ∧ f3 ≤ 672) ∧ (-1 ≤ f4 ∧ f4 ≤ 23)) ∨ ∃ (F : Int) (vC' vM' : zHp), co = some (vC', 0) ∧ mo = some (vM', 0) ∧ xBd B N ru F c0 vC' ∧ xBM F m0 vM'
/-- one number -/
theorem kd_one {B : Nat → Int} {N ru T p : Nat} {c0 m0 vC vM vC1 vM1 : zHp} {s e : Nat} {t : Int} {kd : Int} (h : xGd B N ru T c0 m0 vC1 vM1 s e t) (hp8 : p < 8) (hfr : xFr ru p vC vM vC1 vM1) (hfl : xFl ru p kd (-1) (-1) vC1 vM1) (hk : kd ≠ 3) {hi : Int} (hhi : hi ≤ 672) : xKo B N ru T p c0 m0 vC vM s kd (zcl (fX6_readNumber vC1 0 hi) fun v21 r22 => zb (zst v21 (ru + 2 + (2 + 1 * p)) 3 r22) fun v24 => some (v24, 0)) (fX12_premiumLine_J114 vM1 (11 + 5 * (p : Int)) kd 0 hi) := by
  have hru := h.2.2.2.2.2.2.2.2
  unfold fX12_premiumLine_J114
  rcases gd_num h (lo := 0) (hi := hi) (by decide) (by omega) with ⟨ht2, g1, g2, vC2, vM2, s2, e2, t2, q1, q2, q3, q4, q5, q6, q7⟩ | ⟨_, x, F, vC2, vM2, q1, q2, q3, q4, q5, q6, q7, _, _⟩
  · left
    rw [q1, zcl_e, zb_e, q2, zcl_e, if_pos p10, zck_pos (by omega), q7, zb_e]
    unfold fX12_premiumLine_J134
    rw [if_pos hk]
    refine ⟨_, _, s2, e2, t2, xVal B s e, -1, rfl, rfl, gd_stM (gd_st q3 (a := ru + 2 + (2 + 1 * p)) (by omega) 3 (xVal B s e)) (11 + 5 * (p : Int) + 3) (xVal B s e), ?_, ((hfr.of hru (fun a x1 _ => q5 a x1) q6).stC 3 (xVal B s e)).stM (by omega) (xVal B s e), (hfl.of hru (fun a x1 _ => q5 a x1) q6).set3 (xVal B s e), by omega, by decide⟩
    have := h.2.2.1.1
    omega
  · right
    rw [q1, zcl_e, zb_e, q2, zcl_e, if_neg n00]
    exact ⟨F, _, vM2, rfl, rfl, bd_st q3 (by omega) 3 x, q4⟩
/-- the night's two -/
theorem kd_night {B : Nat → Int} {N ru T p : Nat} {c0 m0 vC vM vC1 vM1 : zHp} {s e : Nat} {t : Int} (h : xGd B N ru T c0 m0 vC1 vM1 s e t) (hp8 : p < 8) (hfr : xFr ru p vC vM vC1 vM1) (hfl : xFl ru p 3 (-1) (-1) vC1 vM1) : xKo B N ru T p c0 m0 vC vM s 3 (zcl (fX6_readNumber vC1 0 23) fun v10 r11 => zb (zst v10 (ru + 2 + (2 + 1 * p)) 3 r11) fun v13 => zcl (fX6_readNumber v13 0 23) fun v14 r15 => zb (zst v14 (ru + 2 + (2 + 1 * p)) 4 r15) fun v17 => if v17 (ru + 2 + (2 + 1 * p)) 4 ≠ v17 (ru + 2 + (2 + 1 * p)) 3 then (some (v17, 0)) else (zcl (fX6_refuse v17 (v13 1 4) 2) fun v18 _ => some (v18, 0))) (fX12_premiumLine_J114 vM1 (11 + 5 * (p : Int)) 3 0 23) := by
  have hru := h.2.2.2.2.2.2.2.2
  unfold fX12_premiumLine_J114
  rcases gd_num h (lo := 0) (hi := 23) (by decide) (by omega) with ⟨ht2, g1, g2, vC2, vM2, s2, e2, t2, q1, q2, q3, q4, q5, q6, q7⟩ | ⟨_, x, F, vC2, vM2, q1, q2, q3, q4, q5, q6, q7, _, _⟩
  · generalize hX : xVal B s e = X at *
    have h3 := gd_stM (gd_st q3 (a := ru + 2 + (2 + 1 * p)) (by omega) 3 X) (11 + 5 * (p : Int) + 3) X
    have fr3 := ((hfr.of hru (fun a x1 _ => q5 a x1) q6).stC 3 X).stM (j := 11 + 5 * (p : Int) + 3) (by omega) X
    have fl3 := (hfl.of hru (fun a x1 _ => q5 a x1) q6).set3 X
    rw [q1, zcl_e, zb_e, q2, zcl_e, if_pos p10, zck_pos (by omega), q7, zb_e]
    generalize zst vC2 (ru + 2 + (2 + 1 * p)) 3 X = vC3 at h3 fr3 fl3 ⊢
    generalize zst vM2 140 (11 + 5 * (p : Int) + 3) X = vM3 at h3 fr3 fl3 ⊢
    have hs3 : vC3 1 4 = (s2 : Int) := h3.1.2.2.1
    have ht3 : vM3 137 6 = t2 := h3.2.1.2.1
    have hN : s2 ≤ 400 := by
      have := h3.2.2.1.1
      have := h3.2.2.1.2.1
      have := h3.2.2.2.2.2.2.2.1.1
      omega
    have hss : s ≤ s2 := by
      have := h.2.2.1.1
      omega
    unfold fX12_premiumLine_J134
    rw [if_neg (fun g => g rfl), ht3, fl3.2.2.2.2.1, hs3]
    rcases gd_num h3 (lo := 0) (hi := 23) (by decide) (by omega) with ⟨ht4, k1, k2, vC4, vM4, s4, e4, t4, r1, r2, r3, r4, r5, r6, r7⟩ | ⟨hno, y, F, vC4, vM4, r1, r2, r3, r4, r5, r6, r7, _, _⟩
    · have h7 : vM3 137 7 = xVal B s2 e2 := h3.2.1.2.2.2.2.1 ht4
      generalize xVal B s2 e2 = Y at *
      have u4 : zst vC4 (ru + 2 + (2 + 1 * p)) 4 Y (ru + 2 + (2 + 1 * p)) 4 = Y := zst_eq
      have u3 : zst vC4 (ru + 2 + (2 + 1 * p)) 4 Y (ru + 2 + (2 + 1 * p)) 3 = X := by
        rw [zst_nj (by decide), r5 _ (by omega)]
        exact fl3.2.1
      rw [r1, zcl_e, zb_e, u4, u3, if_neg (show ¬ t2 ≠ 2 from fun g => g ht4), zck_pos (by omega), h7]
      by_cases c : Y = X
      · right
        obtain ⟨_, _, z2, z3, _⟩ := gd_bad h3 (k := 2) (by decide) 0
        have hg := gd_st r3 (a := ru + 2 + (2 + 1 * p)) (by omega) 4 Y
        have z1 := gd_badC hg (F := 8 * (s2 : Int) + 2) (by omega)
        rw [if_neg (show ¬ Y ≠ X from fun g => g c), if_neg (show ¬ Y ≠ X from fun g => g c), c_ref1 hg.2.2.2.1.1 hN (by decide), zcl_e, z3, zcl_e, zck_pos (by decide)]
        exact ⟨_, _, _, rfl, rfl, z1, z2⟩
      · left
        rw [if_pos c, if_pos c]
        unfold fX12_premiumLine_J168
        rw [r2, zcl_e, if_pos p10, zck_pos (by omega), r7, zb_e]
        refine ⟨_, _, s4, e4, t4, X, Y, rfl, rfl, gd_stM (gd_st r3 (a := ru + 2 + (2 + 1 * p)) (by omega) 4 Y) (11 + 5 * (p : Int) + 4) Y, ?_, ((fr3.of hru (fun a x1 _ => r5 a x1) r6).stC 4 Y).stM (by omega) Y, (fl3.of hru (fun a x1 _ => r5 a x1) r6).set4 Y, by omega, by omega⟩
        have := h3.2.2.1.1
        omega
    · right
      have j168 : fX12_premiumLine_J168 vM3 (11 + 5 * (p : Int)) = some (vM4, 0) := by
        unfold fX12_premiumLine_J168
        rw [r2, zcl_e, if_neg n00]
      have eM : (if t2 ≠ 2 then fX12_premiumLine_J168 vM3 (11 + 5 * (p : Int)) else zck (0 ≤ 11 + 5 * (p : Int) + 3 ∧ 11 + 5 * (p : Int) + 3 < 51) <| if vM3 137 7 ≠ X then (fX12_premiumLine_J168 vM3 (11 + 5 * (p : Int))) else (zcl (fX12_bad vM3 2) fun v49 r50 => zck (r50 = 0 ∨ r50 = 1) <| some (v49, r50))) = some (vM4, 0) := by
        by_cases c2 : t2 = 2
        · have h7 : vM3 137 7 = xVal B s2 e2 := h3.2.1.2.2.2.2.1 c2
          have hne : vM3 137 7 ≠ X := fun g => hno ⟨c2, by omega, by omega⟩
          rw [if_neg (fun g => g c2), zck_pos (by omega), if_pos hne, j168]
        · rw [if_pos c2, j168]
      have hb := bd_st r3 (a := ru + 2 + (2 + 1 * p)) (by omega) 4 y
      rw [eM, r1, zcl_e, zb_e]
      by_cases c : zst vC4 (ru + 2 + (2 + 1 * p)) 4 y (ru + 2 + (2 + 1 * p)) 4 ≠ zst vC4 (ru + 2 + (2 + 1 * p)) 4 y (ru + 2 + (2 + 1 * p)) 3
      · rw [if_pos c]
        exact ⟨F, _, vM4, rfl, rfl, hb, r4⟩
      · rw [if_neg c, c_ref0 hb.nf, zcl_e]
        exact ⟨F, _, vM4, rfl, rfl, hb, r4⟩
  · right
    obtain ⟨w, w1, w2⟩ := bd_kd2 (bd_st q3 (a := ru + 2 + (2 + 1 * p)) (by omega) 3 x) (U := ru + 2 + (2 + 1 * p)) (by omega)
    rw [q1, zcl_e, zb_e, q2, zcl_e, if_neg n00]
    exact ⟨F, w, vM2, w1, rfl, w2, q4⟩
theorem gd_kd {B : Nat → Int} {N ru T p : Nat} {c0 m0 vC vM vC1 vM1 : zHp} {s e : Nat} {t : Int} {kd : Int} (h : xGd B N ru T c0 m0 vC1 vM1 s e t) (hp8 : p < 8) (hfr : xFr ru p vC vM vC1 vM1) (hfl : xFl ru p kd (-1) (-1) vC1 vM1) (hk : 0 ≤ kd ∧ kd ≤ 4) : xKo B N ru T p c0 m0 vC vM s kd (xKd vC1 (ru + 2 + (2 + 1 * p))) (xMk vM1 (11 + 5 * (p : Int)) kd) := by
  unfold xKd xMk
  rw [hfl.1]
  by_cases c0 : kd = 0
  · subst c0
    rw [if_neg (fun g => g rfl), if_pos (by decide)]
    unfold fX12_premiumLine_J90
    rw [if_neg (fun g => g rfl)]
    exact kd_one h hp8 hfr hfl (by decide) (by decide)
  · rw [if_pos c0]
    by_cases c1 : kd = 1
    · subst c1
      rw [if_neg (fun g => g rfl), if_pos (by decide)]
      unfold fX12_premiumLine_J90
      rw [if_pos (by decide), if_neg (fun g => g rfl)]
      exact kd_one h hp8 hfr hfl (by decide) (by decide)
    · rw [if_pos c1, if_neg (by omega : ¬ kd ≤ 1)]
      by_cases c3 : kd = 3
      · subst c3
        rw [if_neg (fun g => g rfl), if_neg (fun g => g rfl)]
        unfold fX12_premiumLine_J90
        rw [if_pos (by decide), if_pos (by decide)]
        exact kd_night h hp8 hfr hfl
      · rw [if_pos c3, if_pos c3]
        unfold fX12_premiumLine_J134
        rw [if_pos c3]
        exact Or.inl ⟨vC1, vM1, s, e, t, -1, -1, rfl, rfl, h, Nat.le_refl _, hfr, hfl, by decide, by decide⟩
theorem ln_premium {B : Nat → Int} {N ru T : Nat} {c0 m0 vC vM : zHp} {s e : Nat} {t : Int} (h : xGd B N ru T c0 m0 vC vM s e t) (ht : t = 1) (hd : zDr ru vC vM) : xOut B N ru c0 m0 (xU T vM) s (fun K => zcl (fX6_readPremium vC ru) fun v31 _ => K v31) (fX12_premiumLine vM) := by
  have hse : s < e := by
    rcases h.2.2.1.2.2.1 with a | a
    · omega
    · exact a.2
  have hru := h.2.2.2.2.2.2.2.2
  have w3 := hd.2.2.2.1
  have w10 : vC ru 2 = vM 140 10 := hd.1.2.2.1.1
  unfold fX12_premiumLine
  rw [xPt_e, zck_pos (by decide), w10]
  by_cases c : vM 140 10 = 8
  · right
    obtain ⟨z1, _, z2, z3, z4⟩ := gd_bad h (k := 3) (by decide) 0
    rw [if_neg (show ¬ vM 140 10 < 8 by omega), if_neg (show ¬ vM 140 10 ≠ 8 from fun g => g c), h.1.2.2.1, z4, zcl_e, z3, zcl_e, zck_pos (by decide)]
    exact ⟨_, _, _, fun K => rfl, rfl, z1, z2⟩
  · obtain ⟨p, hp⟩ : ∃ p : Nat, vM 140 10 = (p : Int) := ⟨(vM 140 10).toNat, by omega⟩
    have hp8 : p < 8 := by omega
    rw [if_pos (show vM 140 10 < 8 by omega), if_pos c]
    obtain ⟨vC1, vM1, s1, e1, t1, a1, a2, a3, a4, a5, a6, a7⟩ := gd_adv h
    have eC : vC1 ru 2 = (p : Int) := by rw [a5 ru (by omega), w10, hp]
    have eM : vM1 140 10 = (p : Int) := by rw [a6, hp]
    rw [a1, zcl_e, a2, zcl_e, eC, zck_pos (by omega), Int.toNat_natCast, zb_e, zn_pos (by omega), zb_e, zck_pos (by decide), eM, zn_pos (by omega)]
    have hr0 : ∀ j : Int, zst vC1 ru 2 ((p : Int) + 1) ru j = if j = 2 then (p : Int) + 1 else vC ru j := fun j => by rw [zst_if, a5 ru (by omega)]
    have fr0 : xFr ru p vC vM (zst vC1 ru 2 ((p : Int) + 1)) vM1 := ⟨fun a b1 b2 b3 => by funext j; rw [zst_na b2, a5 a (by omega)], hr0, fun j _ => by rw [a6]⟩
    have g0 := gd_st (gd_st (gd_st a3 (a := ru) (by omega) 2 ((p : Int) + 1)) (a := ru + 2 + (2 + 1 * p)) (by omega) 3 (-1)) (a := ru + 2 + (2 + 1 * p)) (by omega) 4 (-1)
    obtain ⟨r, k1, k2, k3, k4⟩ := gd_kindOf g0
    unfold fX6_readKind
    rw [zb_e, zb_e, k1, zcl_e, zb_e, zst_eq, k2, zcl_e]
    have g1 := gd_st g0 (a := ru + 2 + (2 + 1 * p)) (by omega) 0 r
    have fr1 := ((fr0.stC 3 (-1)).stC 4 (-1)).stC 0 r
    by_cases kn : r = -1
    · right
      obtain ⟨z1, _, z2, z3, z4⟩ := gd_bad g1 (k := 1) (by decide) 0
      obtain ⟨x, x1, x2⟩ := bd_kd z1 (U := ru + 2 + (2 + 1 * p)) (by omega)
      obtain ⟨y, y1, y2⟩ := bd_pt x2 (U := ru + 2 + (2 + 1 * p)) (by omega)
      rw [if_pos kn, if_neg (fun g => g kn), z3, zcl_e, zck_pos (by decide)]
      refine ⟨_, y, _, fun K => ?_, rfl, y2, z2⟩
      dsimp only
      rw [xKd_e]
      unfold fX6_passIf fX6_passIf_J13
      rw [if_neg n00, g1.1.2.2.1, z4, zcl_e, if_pos z1.nf, zcl_e, x1, zcl_e, y1, zcl_e]
    · rw [if_neg kn, if_pos kn]
      obtain ⟨vC2, vM2, s2, e2, t2, b1, b2, b3, b4, b5, b6, b7⟩ := gd_adv g1
      have g2 := gd_stM (gd_stM (gd_stM b3 (11 + 5 * (p : Int)) r) (11 + 5 * (p : Int) + 3) (-1)) (11 + 5 * (p : Int) + 4) (-1)
      have fr2 := (((fr1.of hru (fun a x1 _ => b5 a x1) b6).stM (j := 11 + 5 * (p : Int)) (by omega) r).stM (j := 11 + 5 * (p : Int) + 3) (by omega) (-1)).stM (j := 11 + 5 * (p : Int) + 4) (by omega) (-1)
      have fl2 : xFl ru p r (-1) (-1) vC2 (zst (zst (zst vM2 140 (11 + 5 * (p : Int)) r) 140 (11 + 5 * (p : Int) + 3) (-1)) 140 (11 + 5 * (p : Int) + 4) (-1)) := by
        unfold xFl
        rw [b5 _ (by omega)]
        refine ⟨zst_eq, ?_, ?_, ?_, ?_, zst_eq⟩
        · rw [zst_nj (by decide), zst_nj (by decide), zst_eq]
        · rw [zst_nj (by decide), zst_eq]
        · rw [zst_nj (by omega), zst_nj (by omega), zst_eq]
        · rw [zst_nj (by omega), zst_eq]
      have eK : fX6_readKind_J33 (zst (zst (zst (zst vC1 ru 2 ((p : Int) + 1)) (ru + 2 + (2 + 1 * p)) 3 (-1)) (ru + 2 + (2 + 1 * p)) 4 (-1)) (ru + 2 + (2 + 1 * p)) 0 r) (ru + 2 + (2 + 1 * p)) 1 = xKd vC2 (ru + 2 + (2 + 1 * p)) := by
        rw [xKd_e]
        unfold fX6_passIf fX6_passIf_J13
        rw [if_pos p10, if_neg (fun g => g g1.2.2.2.1.1), b1, zcl_e, zcl_e]
      rw [eK, b2, zcl_e, zck_pos (by omega), zb_e, zck_pos (by omega), zb_e, zck_pos (by omega), zb_e]
      have hlt : e ≤ s1 ∧ s1 ≤ e1 ∧ e1 ≤ s2 := ⟨a4, a3.2.2.1.1, b4⟩
      rcases gd_kd g2 hp8 fr2 fl2 ⟨by omega, k4⟩ with ⟨vC3, vM3, s3, e3, t3, f3, f4, d1, d2, d3, d4, d5, d6, d7, d8⟩ | ⟨F, vC3, vM3, d1, d2, d3, d4⟩
      · rcases pt_good d3 hd hp hp8 d5 d6 ⟨by omega, k4⟩ d7 d8 with ⟨vC4, vM4, s4, e4, t4, m1, m2, m3, m4, m5, m6⟩ | ⟨F, vC4, vM4, m1, m2, m3, m4⟩
        · left
          refine ⟨vC4, vM4, s4, e4, t4, T, fun K => by dsimp only; rw [d1, zcl_e, m1, zcl_e], ?_, m3, by omega, m5, m6⟩
          exact (d2.trans m2)
        · right
          exact ⟨F, vC4, vM4, fun K => by dsimp only; rw [d1, zcl_e, m1, zcl_e], d2.trans m2, m3, m4⟩
      · right
        obtain ⟨y, y1, y2⟩ := bd_pt d3 (U := ru + 2 + (2 + 1 * p)) (by omega)
        exact ⟨F, y, vM3, fun K => by dsimp only; rw [d1, zcl_e, y1, zcl_e], d2, y2, d4⟩
