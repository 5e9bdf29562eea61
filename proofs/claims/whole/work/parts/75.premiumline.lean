/-! PURE: a line read by both: a premium's. My own text. -/
def xFl (ru p : Nat) (kd f3 f4 : Int) (vC vM : zHp) : Prop := vC (ru + 2 + (2 + 1 * p)) 0 = kd ∧ vC (ru + 2 + (2 + 1 * p)) 3 = f3 ∧ vC (ru + 2 + (2 + 1 * p)) 4 = f4 ∧ vM 140 (11 + 5 * (p : Int)) = kd ∧ vM 140 (11 + 5 * (p : Int) + 3) = f3 ∧ vM 140 (11 + 5 * (p : Int) + 4) = f4
def xFr (ru p : Nat) (vC vM vC' vM' : zHp) : Prop := (∀ a, 4 ≤ a → a ≠ ru → a ≠ ru + 2 + (2 + 1 * p) → vC' a = vC a) ∧ (∀ j : Int, vC' ru j = if j = 2 then (p : Int) + 1 else vC ru j) ∧ ∀ j : Int, j < 11 + 5 * (p : Int) → vM' 140 j = vM 140 j
theorem xFr.of {ru p : Nat} {vC vM vC' vM' vC'' vM'' : zHp} (hru : ru = 4 ∨ ru = 16) (h : xFr ru p vC vM vC' vM') (h1 : ∀ a, a ≠ 1 → a ≠ 3 → vC'' a = vC' a) (h2 : vM'' 140 = vM' 140) : xFr ru p vC vM vC'' vM'' := by
  refine ⟨fun a a1 a2 a3 => by rw [h1 a (by omega) (by omega)]; exact h.1 a a1 a2 a3, fun j => by rw [h1 ru (by omega) (by omega)]; exact h.2.1 j, fun j hj => by rw [h2]; exact h.2.2 j hj⟩
theorem xFr.stC {ru p : Nat} {vC vM vC' vM' : zHp} (h : xFr ru p vC vM vC' vM') (j x : Int) : xFr ru p vC vM (zst vC' (ru + 2 + (2 + 1 * p)) j x) vM' := by
  refine ⟨fun a a1 a2 a3 => ?_, fun i => ?_, h.2.2⟩
  · funext i
    rw [zst_na a3, h.1 a a1 a2 a3]
  · rw [zst_na (by omega)]
    exact h.2.1 i
theorem xFr.stM {ru p : Nat} {vC vM vC' vM' : zHp} (h : xFr ru p vC vM vC' vM') {j : Int} (hj : 11 + 5 * (p : Int) ≤ j) (x : Int) : xFr ru p vC vM vC' (zst vM' 140 j x) :=
  ⟨h.1, h.2.1, fun i hi => by rw [zst_nj (by omega)]; exact h.2.2 i hi⟩
theorem xFl.of {ru p : Nat} {kd f3 f4 : Int} {vC vM vC' vM' : zHp} (hru : ru = 4 ∨ ru = 16) (h : xFl ru p kd f3 f4 vC vM) (h1 : ∀ a, a ≠ 1 → a ≠ 3 → vC' a = vC a) (h2 : vM' 140 = vM 140) : xFl ru p kd f3 f4 vC' vM' := by
  unfold xFl
  rw [h1 _ (by omega) (by omega), h2]
  exact h
theorem zDr.prem {ru p : Nat} {vC vM vC' vM' : zHp} (h : zDr ru vC vM) (hp : vM 140 10 = (p : Int)) (hp8 : p < 8) (hC : ∀ a, 4 ≤ a → a ≠ ru → a ≠ ru + 2 + (2 + 1 * p) → vC' a = vC a) (hC1 : ∀ j : Int, vC' ru j = if j = 2 then (p : Int) + 1 else vC ru j) (hCu : ∀ f : Int, 0 ≤ f → f ≤ 4 → vC' (ru + 2 + (2 + 1 * p)) f = vM' 140 (11 + 5 * (p : Int) + f)) (hM : ∀ j : Int, j < 11 + 5 * (p : Int) → j ≠ 10 → vM' 140 j = vM 140 j) (hM10 : vM' 140 10 = (p : Int) + 1) (hb : 0 ≤ vM' 140 (11 + 5 * (p : Int) + 0) ∧ vM' 140 (11 + 5 * (p : Int) + 0) ≤ 4 ∧ 1 ≤ vM' 140 (11 + 5 * (p : Int) + 1) ∧ vM' 140 (11 + 5 * (p : Int) + 1) ≤ 300 ∧ (vM' 140 (11 + 5 * (p : Int) + 2) = 0 ∨ vM' 140 (11 + 5 * (p : Int) + 2) = 1) ∧ -1 ≤ vM' 140 (11 + 5 * (p : Int) + 3) ∧ vM' 140 (11 + 5 * (p : Int) + 3) ≤ 672 ∧ -1 ≤ vM' 140 (11 + 5 * (p : Int) + 4) ∧ vM' 140 (11 + 5 * (p : Int) + 4) ≤ 23) : zDr ru vC' vM' := by
  obtain ⟨⟨h1, h2, h3, h4, h5⟩, w1, w2, w3, w4⟩ := h
  have ne : ∀ j : Int, j < 10 → vM' 140 j = vM 140 j := fun j hj => hM j (by omega) (by omega)
  refine ⟨⟨h1, ?_, ?_, fun q hq f f0 f4 => ?_, fun d d0 d1 => ?_⟩, ?_, ?_, ?_, fun q hq => ?_⟩
  · unfold zCK zTurn zShift at h2 ⊢
    rw [hC (ru + 1) (by omega) (by omega) (by omega), ne 5 (by omega), ne 6 (by omega), ne 7 (by omega)]
    exact h2
  · rw [hC1, hC1, hC1, hC1, hC1, hC1, hC1, hM10, ne 9 (by omega), ne 0 (by omega), ne 1 (by omega), ne 2 (by omega), ne 3 (by omega), ne 4 (by omega)]
    rw [if_pos rfl, if_neg (by decide), if_neg (by decide), if_neg (by decide), if_neg (by decide), if_neg (by decide), if_neg (by decide)]
    exact ⟨rfl, h3.2⟩
  · rw [hM10] at hq
    by_cases c : q = p
    · rw [c]
      exact hCu f f0 f4
    · rw [hC _ (by omega) (by omega) (by omega), hM _ (by omega) (by omega)]
      exact h4 q (by omega) f f0 f4
  · rw [hC _ (by omega) (by omega) (by omega), ne 9 (by omega), ne 8 (by omega)]
    exact h5 d d0 d1
  · unfold zWk
    rw [ne 5 (by omega), ne 6 (by omega), ne 7 (by omega)]
    exact w1
  · rw [ne 0 (by omega), ne 1 (by omega), ne 2 (by omega), ne 3 (by omega), ne 4 (by omega)]
    exact w2
  · rw [ne 9 (by omega), hM10, ne 8 (by omega)]
    omega
  · rw [hM10] at hq
    by_cases c : q = p
    · rw [c]
      exact hb
    · rw [hM (11 + 5 * (q : Int) + 0) (by omega) (by omega), hM (11 + 5 * (q : Int) + 1) (by omega) (by omega), hM (11 + 5 * (q : Int) + 2) (by omega) (by omega), hM (11 + 5 * (q : Int) + 3) (by omega) (by omega), hM (11 + 5 * (q : Int) + 4) (by omega) (by omega)]
      exact w4 q (by omega)
/-- from behind the kind -/
def xPt (v8 : zHp) (u5 : Nat) : Option (zHp × Int) := zcl (fX6_readNumber v8 1 300) fun v11 r12 => zb (zst v11 u5 1 r12) fun v14 => zcl (fX9_tells v14 13) fun v15 r16 => zck (r16 = 0 ∨ r16 = 1) <| zb (zst v15 u5 2 r16) fun v19 => if v19 u5 2 = 0 then (some (v19, 0)) else (zcl (fX6_passIf v19 1) fun v20 _ => some (v20, 0))
theorem xPt_e (v : zHp) (a2 : Nat) : fX6_readPremium v a2 = if v a2 2 < 8 then (zcl (fX9_advance v) fun v1 _ => zck (0 ≤ v1 a2 2 ∧ v1 a2 2 < 8) <| zb (a2 + 2 + (2 + 1 * (v1 a2 2).toNat)) fun u5 => zn ((v1 a2 2) + 1) fun t6 => zb (zst v1 a2 2 t6) fun v7 => zcl (fX6_readKind v7 u5) fun v8 _ => xPt v8 u5) else (zcl (fX6_refuse v (v 1 4) 3) fun v17 _ => some (v17, 0)) := rfl
theorem bd_pt {B : Nat → Int} {N ru : Nat} {F : Int} {v0 v : zHp} (h : xBd B N ru F v0 v) {U : Nat} (hU : ru ≤ U ∧ U ≤ ru + 11) : ∃ v', xPt v U = some (v', 0) ∧ xBd B N ru F v0 v' := by
  obtain ⟨x, a1, _, _⟩ := bd_num h 1 300
  have h1 := bd_st h hU 1 x
  obtain ⟨r, b1, b2⟩ := bd_tells h1 xw_counts
  have h2 := bd_st h1 hU 2 r
  unfold xPt
  rw [a1, zcl_e, zb_e, b1, zcl_e, zck_pos b2, zb_e]
  split
  · exact ⟨_, rfl, h2⟩
  · rw [bd_pass h2, zcl_e]
    exact ⟨_, rfl, h2⟩
/-- the end of a premium's line -/
theorem pt_good {B : Nat → Int} {N ru T p : Nat} {c0 m0 vC vM vC1 vM1 : zHp} {s e : Nat} {t : Int} {kd f3 f4 : Int} (h : xGd B N ru T c0 m0 vC1 vM1 s e t) (hd : zDr ru vC vM) (hp : vM 140 10 = (p : Int)) (hp8 : p < 8) (hfr : xFr ru p vC vM vC1 vM1) (hfl : xFl ru p kd f3 f4 vC1 vM1) (hk : 0 ≤ kd ∧ kd ≤ 4) (h3 : -1 ≤ f3 ∧ f3 ≤ 672) (h4 : -1 ≤ f4 ∧ f4 ≤ 23) : (∃ vC' vM' s' e' t', xPt vC1 (ru + 2 + (2 + 1 * p)) = some (vC', 0) ∧ fX12_premiumLine_J192 vM1 (11 + 5 * (p : Int)) = some (vM', 1) ∧ xGd B N ru T c0 m0 vC' vM' s' e' t' ∧ s ≤ s' ∧ zDr ru vC' vM' ∧ xU T vM' = xU T vM + 1) ∨ ∃ (F : Int) (vC' vM' : zHp), xPt vC1 (ru + 2 + (2 + 1 * p)) = some (vC', 0) ∧ fX12_premiumLine_J192 vM1 (11 + 5 * (p : Int)) = some (vM', 0) ∧ xBd B N ru F c0 vC' ∧ xBM F m0 vM' := by
  have hru := h.2.2.2.2.2.2.2.2
  unfold fX12_premiumLine_J192
  rcases gd_num h (lo := 1) (hi := 300) (by decide) (by decide) with ⟨ht2, g1, g2, vC2, vM2, s2, e2, t2, q1, q2, q3, q4, q5, q6, q7⟩ | ⟨_, x, F, vC2, vM2, q1, q2, q3, q4, q5, q6, q7, _, _⟩
  · left
    generalize xVal B s e = X at *
    have h5 := gd_stM (gd_st q3 (a := ru + 2 + (2 + 1 * p)) (by omega) 1 X) (11 + 5 * (p : Int) + 1) X
    obtain ⟨r, b1, b2, b3, _⟩ := gd_tells h5 xw_counts
    have h6 := gd_stM (gd_st h5 (a := ru + 2 + (2 + 1 * p)) (by omega) 2 r) (11 + 5 * (p : Int) + 2) r
    have hfr2 := ((((hfr.of hru (fun a x1 _ => q5 a x1) q6).stC 1 X).stM (j := 11 + 5 * (p : Int) + 1) (by omega) X).stC 2 r).stM (j := 11 + 5 * (p : Int) + 2) (by omega) r
    have hfl2 := hfl.of hru (fun a x1 _ => q5 a x1) q6
    -- the rest, both ways
    have fin : ∀ (vC3 vM3 : zHp) (s3 e3 : Nat) (t3 : Int), xGd B N ru T c0 m0 vC3 vM3 s3 e3 t3 → s ≤ s3 → (∀ a, a ≠ 1 → vC3 a = zst (zst vC2 (ru + 2 + (2 + 1 * p)) 1 X) (ru + 2 + (2 + 1 * p)) 2 r a) → vM3 140 = zst (zst vM2 140 (11 + 5 * (p : Int) + 1) X) 140 (11 + 5 * (p : Int) + 2) r 140 → ∃ vM', fX12_premiumLine_J261 vM3 = some (vM', 1) ∧ xGd B N ru T c0 m0 vC3 vM' s3 e3 t3 ∧ s ≤ s3 ∧ zDr ru vC3 vM' ∧ xU T vM' = xU T vM + 1 := fun vC3 vM3 s3 e3 t3 hg hs3 k1 k2 => by
      have fr3 := hfr2.of hru (fun a x1 _ => k1 a x1) k2
      have e10 : vM3 140 10 = (p : Int) := by rw [fr3.2.2 10 (by omega), hp]
      refine ⟨zst vM3 140 10 ((p : Int) + 1), ?_, gd_stM hg 10 ((p : Int) + 1), hs3, ?_, ?_⟩
      · unfold fX12_premiumLine_J261
        rw [zck_pos (by decide), e10, zn_pos (by omega), zck_pos (by decide), zb_e]
      · have eM : ∀ j : Int, j ≠ 10 → zst vM3 140 10 ((p : Int) + 1) 140 j = if j = 11 + 5 * (p : Int) + 2 then r else if j = 11 + 5 * (p : Int) + 1 then X else vM2 140 j := fun j hj => by rw [zst_nj hj, k2, zst_if, zst_if]
        have eC : ∀ j : Int, vC3 (ru + 2 + (2 + 1 * p)) j = if j = 2 then r else if j = 1 then X else vC2 (ru + 2 + (2 + 1 * p)) j := fun j => by rw [k1 _ (by omega), zst_if, zst_if]
        have m0' : zst vM3 140 10 ((p : Int) + 1) 140 (11 + 5 * (p : Int) + 0) = kd := by rw [eM _ (by omega), if_neg (by omega), if_neg (by omega), Int.add_zero]; exact hfl2.2.2.2.1
        have m1' : zst vM3 140 10 ((p : Int) + 1) 140 (11 + 5 * (p : Int) + 1) = X := by rw [eM _ (by omega), if_neg (by omega), if_pos rfl]
        have m2' : zst vM3 140 10 ((p : Int) + 1) 140 (11 + 5 * (p : Int) + 2) = r := by rw [eM _ (by omega), if_pos rfl]
        have m3' : zst vM3 140 10 ((p : Int) + 1) 140 (11 + 5 * (p : Int) + 3) = f3 := by rw [eM _ (by omega), if_neg (by omega), if_neg (by omega)]; exact hfl2.2.2.2.2.1
        have m4' : zst vM3 140 10 ((p : Int) + 1) 140 (11 + 5 * (p : Int) + 4) = f4 := by rw [eM _ (by omega), if_neg (by omega), if_neg (by omega)]; exact hfl2.2.2.2.2.2
        refine hd.prem hp hp8 fr3.1 fr3.2.1 (fun f f0 f4' => ?_) (fun j hj hj2 => by rw [zst_nj hj2]; exact fr3.2.2 j hj) zst_eq ?_
        · rw [eC]
          by_cases d0 : f = 0
          · subst d0; rw [m0', if_neg (by decide), if_neg (by decide)]; exact hfl2.1
          · by_cases d1 : f = 1
            · subst d1; rw [m1', if_neg (by decide), if_pos rfl]
            · by_cases d2 : f = 2
              · subst d2; rw [m2', if_pos rfl]
              · by_cases d3 : f = 3
                · subst d3; rw [m3', if_neg (by decide), if_neg (by decide)]; exact hfl2.2.1
                · have d4 : f = 4 := by omega
                  subst d4; rw [m4', if_neg (by decide), if_neg (by decide)]; exact hfl2.2.2.1
        · rw [m0', m1', m2', m3', m4']
          omega
      · unfold xU
        rw [zst_eq, zst_nj (by decide), fr3.2.2 9 (by omega), hp]
        omega
    have hse : s ≤ s2 := by
      have := h.2.2.1.1
      omega
    unfold xPt
    rw [q1, zcl_e, zb_e, b1, zcl_e, zck_pos b3, zb_e, zst_eq, q2, zcl_e, if_pos p10, zck_pos (by omega), q7, zb_e, b2, zcl_e]
    rcases b3 with rfl | rfl
    · rw [if_pos rfl, if_pos rfl, zn_pos (by omega)]
      unfold fX12_premiumLine_J252
      rw [zck_pos (by omega), zb_e, if_pos rfl]
      obtain ⟨vM', y1, y2, y3, y4, y5⟩ := fin _ _ s2 e2 t2 h6 hse (fun a _ => rfl) rfl
      exact ⟨_, vM', s2, e2, t2, rfl, y1, y2, y3, y4, y5⟩
    · rw [if_neg n10, if_neg n10, zn_pos (by omega)]
      unfold fX12_premiumLine_J252 fX6_passIf fX6_passIf_J13
      obtain ⟨vC3, vM3, s3, e3, t3, u1, u2, u3, u4, u5, u6, u7⟩ := gd_adv h6
      have hf := h6.2.2.2.1.1
      obtain ⟨vM', y1, y2, y3, y4, y5⟩ := fin vC3 vM3 s3 e3 t3 u3 (by have := q3.2.2.1.1; omega) u5 u6
      rw [zck_pos (by omega), zb_e, if_neg n10, if_pos p10, if_neg (fun g => g hf), u1, zcl_e, zcl_e, u2, zcl_e]
      exact ⟨_, vM', s3, e3, t3, rfl, y1, y2, y3, y4, y5⟩
  · right
    obtain ⟨y, y1, y2⟩ : ∃ v', xPt vC1 (ru + 2 + (2 + 1 * p)) = some (v', 0) ∧ xBd B N ru F c0 v' := by
      have h1 := bd_st q3 (a := ru + 2 + (2 + 1 * p)) (by omega) 1 x
      obtain ⟨r, b1, b2⟩ := bd_tells h1 xw_counts
      have h2 := bd_st h1 (a := ru + 2 + (2 + 1 * p)) (by omega) 2 r
      unfold xPt
      rw [q1, zcl_e, zb_e, b1, zcl_e, zck_pos b2, zb_e]
      split
      · exact ⟨_, rfl, h2⟩
      · rw [bd_pass h2, zcl_e]
        exact ⟨_, rfl, h2⟩
    rw [q2, zcl_e, if_neg n00]
    exact ⟨F, y, vM2, y1, rfl, y2, q4⟩
