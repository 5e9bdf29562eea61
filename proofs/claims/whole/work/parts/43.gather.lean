/-! PURE: the class gathers a week's quarters. My own text. -/
abbrev zPa (ru p : Nat) : Nat := ru + 2 + (2 + 1 * p)
theorem c_pr {ru : Nat} {v : zHp} {R : Int → Int} (h : zRC ru v R) {p : Nat} (hp : (p : Int) < R 10) : v (ru + 2 + (2 + 1 * p)) 0 = R (11 + 5 * (p : Int) + 0) ∧ v (ru + 2 + (2 + 1 * p)) 1 = R (11 + 5 * (p : Int) + 1) ∧ v (ru + 2 + (2 + 1 * p)) 2 = R (11 + 5 * (p : Int) + 2) ∧ v (ru + 2 + (2 + 1 * p)) 3 = R (11 + 5 * (p : Int) + 3) ∧ v (ru + 2 + (2 + 1 * p)) 4 = R (11 + 5 * (p : Int) + 4) :=
  ⟨h.2.2.2.1 p hp 0 (by decide) (by decide), h.2.2.2.1 p hp 1 (by decide) (by decide), h.2.2.2.1 p hp 2 (by decide) (by decide), h.2.2.2.1 p hp 3 (by decide) (by decide), h.2.2.2.1 p hp 4 (by decide) (by decide)⟩
theorem hol_L {ru : Nat} {v : zHp} {R : Int → Int} (hR : zWR R) (h : zRC ru v R) {d : Int} (hd : 0 ≤ d ∧ d ≤ 27) : ∀ (m fu i : Nat), i + m = (R 9).toNat → m < fu → (∀ j : Nat, j < i → v (ru + 3) (j : Int) ≠ d) → zlf (fX7_isHoliday_L2 fu v ru d (i : Int)) (fun v3 _ => some (v3, 0)) = some (v, if zHol R d then 1 else 0)
  | 0, fu, i, h1, h2, h3 => by
    obtain ⟨k, rfl⟩ : ∃ k, fu = k + 1 := ⟨fu - 1, by omega⟩
    have hb := hR.2.2.1
    have hn : v ru 4 = R 9 := h.2.2.1.2.1
    have e : zHol R d = false := by
      unfold zHol
      rw [decide_eq_false_iff_not]
      intro hc
      obtain ⟨i2, a, b, c⟩ := (h.2.2.2.2 d hd.1 hd.2).mpr hc
      exact h3 i2.toNat (by omega) (by rw [show ((i2.toNat : Nat) : Int) = i2 by omega]; exact c)
    rw [fX7_isHoliday_L2.eq_2, hn, if_pos (by omega), zlf_e, e]
    rfl
  | m + 1, fu, i, h1, h2, h3 => by
    obtain ⟨k, rfl⟩ : ∃ k, fu = k + 1 := ⟨fu - 1, by omega⟩
    have hb := hR.2.2.1
    have hn : v ru 4 = R 9 := h.2.2.1.2.1
    rw [fX7_isHoliday_L2.eq_2, hn, if_neg (by omega), zck_pos (by omega)]
    by_cases c : v (ru + 3) (i : Int) = d
    · have e : zHol R d = true := by
        unfold zHol
        rw [decide_eq_true_iff]
        exact (h.2.2.2.2 d hd.1 hd.2).mp ⟨(i : Int), by omega, by omega, c⟩
      rw [if_neg (by omega), zlf_i, e]
      rfl
    · rw [if_pos c, zn_pos (by omega), show (i : Int) + 1 = ((i + 1 : Nat) : Int) by omega]
      exact hol_L hR h hd m k (i + 1) (by omega) (by omega) fun j hj => by
        by_cases hji : j = i
        · rw [hji]; exact c
        · exact h3 j (by omega)
theorem c_isHoliday {ru : Nat} {v : zHp} {R : Int → Int} (hR : zWR R) (h : zRC ru v R) {d : Int} (hd : 0 ≤ d ∧ d ≤ 27) : fX7_isHoliday v ru d = some (v, if zHol R d then 1 else 0) :=
  hol_L hR h hd (R 9).toNat zFU 0 (by omega) (zFU_lt (by have := hR.2.2.1; omega)) fun j hj => absurd hj (Nat.not_lt_zero _)
theorem c_isAtNight {ru : Nat} {v : zHp} {R : Int → Int} (h : zRC ru v R) {p : Nat} (hp : (p : Int) < R 10) (hour : Int) : fX5_isAtNight v (ru + 2 + (2 + 1 * p)) hour = some (v, if zNt R hour p then 1 else 0) := by
  obtain ⟨_, _, _, e3, e4⟩ := c_pr h hp
  unfold fX5_isAtNight fX5_isAtNight_J13 fX5_isAtNight_J27 zNt
  rw [e3, e4]
  by_cases a : R (11 + 5 * (p : Int) + 4) < R (11 + 5 * (p : Int) + 3)
  · rw [if_pos a]
    by_cases b : R (11 + 5 * (p : Int) + 3) ≤ hour
    · rw [if_neg (by omega), decide_eq_true b]
      by_cases c : R (11 + 5 * (p : Int) + 4) ≤ hour
      · rw [if_pos c, if_neg (by omega)]
        rfl
      · rw [if_neg c, if_neg (by omega)]
        rfl
    · rw [if_pos (by omega), decide_eq_false b, Bool.false_or]
      by_cases c : R (11 + 5 * (p : Int) + 4) ≤ hour
      · rw [if_pos c, if_neg (by omega), decide_eq_false (by omega)]
        rfl
      · rw [if_neg c, if_neg (by omega), decide_eq_true (by omega)]
        rfl
  · rw [if_neg a]
    by_cases b : R (11 + 5 * (p : Int) + 3) ≤ hour
    · rw [if_neg (by omega), decide_eq_true b, Bool.true_and]
      by_cases c : R (11 + 5 * (p : Int) + 4) ≤ hour
      · rw [if_pos c, if_pos (by omega), decide_eq_false (by omega)]
        rfl
      · rw [if_neg c, if_pos (by omega), decide_eq_true (by omega)]
        rfl
    · rw [if_pos (by omega), decide_eq_false b, Bool.false_and]
      by_cases c : R (11 + 5 * (p : Int) + 4) ≤ hour
      · rw [if_pos c, if_pos (by omega)]
        rfl
      · rw [if_neg c, if_pos (by omega)]
        rfl
theorem steady_L {ru : Nat} {v : zHp} {R : Int → Int} (hR : zWR R) (h : zRC ru v R) {hour od : Int} {sev hol : Bool} : ∀ (m fu p : Nat), p + m = (R 10).toNat → m < fu → fX7_steadyBits_L6 fu v ru hour od (if sev then 1 else 0) (if hol then 1 else 0) ((zmk (zMy R hour od sev hol) p : Nat) : Int) (p : Int) = some (v, ((zmk (zMy R hour od sev hol) (R 10).toNat : Nat) : Int))
  | 0, fu, p, h1, h2 => by
    obtain ⟨k, rfl⟩ : ∃ k, fu = k + 1 := ⟨fu - 1, by omega⟩
    have hb := hR.2.2.1
    have hn : v ru 2 = R 10 := h.2.2.1.1
    rw [fX7_steadyBits_L6.eq_2, hn, if_pos (by omega), show p = (R 10).toNat by omega]
  | m + 1, fu, p, h1, h2 => by
    obtain ⟨k, rfl⟩ : ∃ k, fu = k + 1 := ⟨fu - 1, by omega⟩
    have hb := hR.2.2.1
    have hn : v ru 2 = R 10 := h.2.2.1.1
    have hp : (p : Int) < R 10 := by omega
    obtain ⟨e0, e1, e2, e3, e4⟩ := c_pr h hp
    have hk := hR.2.2.2 p hp
    have ih := steady_L (hour := hour) (od := od) (sev := sev) (hol := hol) hR h m k (p + 1) (by omega) (by omega)
    have e86 : zMy R hour od sev hol p = true → fX7_steadyBits_J86 (fX7_steadyBits_L6 k) v ru hour od (if sev then 1 else 0) (if hol then 1 else 0) ((zmk (zMy R hour od sev hol) p : Nat) : Int) (p : Int) = some (v, ((zmk (zMy R hour od sev hol) (R 10).toNat : Nat) : Int)) := fun hm => by
      unfold fX7_steadyBits_J86
      rw [zn_pos (by omega), zmk_step (by omega) hm, show (p : Int) + 1 = ((p + 1 : Nat) : Int) by omega]
      exact ih
    have esk : zMy R hour od sev hol p = false → fX7_steadyBits_L6 k v ru hour od (if sev then 1 else 0) (if hol then 1 else 0) ((zmk (zMy R hour od sev hol) p : Nat) : Int) ((p : Int) + 1) = some (v, ((zmk (zMy R hour od sev hol) (R 10).toNat : Nat) : Int)) := fun hm => by
      rw [show (p : Int) + 1 = ((p + 1 : Nat) : Int) by omega, ← ih, zmk_skip hm]
    have eM : zMy R hour od sev hol p = if R (11 + 5 * (p : Int) + 0) = 0 then decide (R (11 + 5 * (p : Int) + 3) ≤ od) else if R (11 + 5 * (p : Int) + 0) = 1 then false else if R (11 + 5 * (p : Int) + 0) = 2 then sev else if R (11 + 5 * (p : Int) + 0) = 3 then zNt R hour p else hol := rfl
    have e54 : R (11 + 5 * (p : Int) + 0) ≠ 3 → (R (11 + 5 * (p : Int) + 0) = 4 → zMy R hour od sev hol p = hol) → (R (11 + 5 * (p : Int) + 0) ≠ 4 → zMy R hour od sev hol p = false) → fX7_steadyBits_J54 (fX7_steadyBits_L6 k) v ru hour od (if sev then 1 else 0) (if hol then 1 else 0) ((zmk (zMy R hour od sev hol) p : Nat) : Int) (p : Int) (ru + 2 + (2 + 1 * p)) = some (v, ((zmk (zMy R hour od sev hol) (R 10).toNat : Nat) : Int)) := fun h3 h4 h5 => by
      unfold fX7_steadyBits_J54 fX7_steadyBits_J72
      rw [e0, if_pos h3]
      by_cases c : R (11 + 5 * (p : Int) + 0) = 4
      · rw [if_neg (by omega)]
        have h6 := h4 c
        cases hh : hol with
        | true =>
          rw [hh] at h6 e86
          rw [if_neg (by decide)]
          exact e86 h6
        | false =>
          rw [hh] at h6 esk
          rw [if_pos (by decide), zn_pos (by omega)]
          exact esk h6
      · rw [if_pos c, zn_pos (by omega)]
        exact esk (h5 c)
    rw [fX7_steadyBits_L6.eq_2, hn, if_neg (by omega), zck_pos (by omega), Int.toNat_natCast, zb_e, e0, e3]
    by_cases k0 : R (11 + 5 * (p : Int) + 0) = 0
    · rw [if_pos k0] at eM
      rw [if_neg (by omega)]
      by_cases a : R (11 + 5 * (p : Int) + 3) ≤ od
      · rw [if_pos a]
        exact e86 (by rw [eM, decide_eq_true a])
      · rw [if_neg a]
        unfold fX7_steadyBits_J41
        rw [e0, if_pos (by omega)]
        exact e54 (by omega) (fun c => by omega) fun c => by rw [eM, decide_eq_false a]
    rw [if_neg k0] at eM
    rw [if_pos k0]
    unfold fX7_steadyBits_J41
    rw [e0]
    by_cases k1 : R (11 + 5 * (p : Int) + 0) = 1
    · rw [if_pos k1] at eM
      rw [if_pos (by omega)]
      exact e54 (by omega) (fun c => by omega) fun c => eM
    rw [if_neg k1] at eM
    by_cases k2 : R (11 + 5 * (p : Int) + 0) = 2
    · rw [if_pos k2] at eM
      rw [if_neg (by omega)]
      cases hs : sev with
      | true =>
        rw [hs] at eM e86
        rw [if_pos (by decide)]
        exact e86 eM
      | false =>
        rw [hs] at eM e54
        rw [if_neg (by decide)]
        exact e54 (by omega) (fun c => by omega) fun c => eM
    rw [if_neg k2] at eM
    rw [if_pos k2]
    by_cases k3 : R (11 + 5 * (p : Int) + 0) = 3
    · rw [if_pos k3] at eM
      unfold fX7_steadyBits_J54
      rw [e0, if_neg (by omega), c_isAtNight h hp, zcl_e]
      cases hz : zNt R hour p with
      | true =>
        rw [hz] at eM
        rw [if_pos (by decide)]
        exact e86 eM
      | false =>
        rw [hz] at eM
        rw [if_neg (by decide)]
        unfold fX7_steadyBits_J72
        rw [e0, if_pos (by omega), zn_pos (by omega)]
        exact esk eM
    · rw [if_neg k3] at eM
      exact e54 k3 (fun _ => eM) fun c => by omega
theorem c_steadyBits {ru : Nat} {v : zHp} {R : Int → Int} (hR : zWR R) (h : zRC ru v R) (hour od : Int) (sev hol : Bool) : fX7_steadyBits v ru hour od (if sev then 1 else 0) (if hol then 1 else 0) = some (v, ((zmk (zMy R hour od sev hol) (R 10).toNat : Nat) : Int)) := by
  have := steady_L (hour := hour) (od := od) (sev := sev) (hol := hol) hR h (R 10).toNat zFU 0 (by omega) (zFU_lt (by have := hR.2.2.1; omega))
  unfold fX7_steadyBits
  rw [show (0 : Int) = ((zmk (zMy R hour od sev hol) 0 : Nat) : Int) from rfl] 
  rw [show ((zmk (zMy R hour od sev hol) 0 : Nat) : Int) = 0 from rfl] at this ⊢
  rw [show ((0 : Nat) : Int) = 0 from rfl] at this
  rw [this]
  rfl
theorem zmk_and {P : Nat → Bool} {n al : Nat} : zmk P n &&& al = zmk (fun p => P p && al.testBit p) n := by
  apply Nat.eq_of_testBit_eq
  intro i
  rw [Nat.testBit_and, zmk_bit, zmk_bit, Bool.and_assoc]
/-- a week's list, as the class has it -/
def zWkC (R : Int → Int) (D : Int → Bool) (al : Nat) (wk q : Int) (v : zHp) : Prop := v 126 3 = (zN D q : Int) ∧ ∀ i : Nat, i < zN D q → v 127 (i : Int) = (yQL D q.toNat).getD i 0 ∧ v 128 (i : Int) = ((zBi R D al wk ((yQL D q.toNat).getD i 0) : Nat) : Int)
theorem zWkC.mv {R : Int → Int} {D : Int → Bool} {al : Nat} {wk a b : Int} {v : zHp} (h : zWkC R D al wk a v) (e : yQL D b.toNat = yQL D a.toNat) : zWkC R D al wk b v := by
  unfold zWkC zN at *
  rw [e]
  exact h
theorem zN_676 {R : Int → Int} (hR : zWk R) {ps : List zP2} {wk q : Int} (hwk : 0 ≤ wk ∧ wk ≤ 3) (hq : zQA R (7 * wk) ≤ q) : (zN (zD R ps wk) q : Int) ≤ q - zQA R (7 * wk) ∧ zQA R (7 * wk + 7) ≤ zQA R (7 * wk) + 676 := by
  have g0 : ∀ x : Int, 0 ≤ x → x < zQA R (7 * wk) → zD R ps wk x = false := fun x _ a => Bool.eq_false_iff.mpr fun b => by
    have := (zD_iff.mp b).2.1
    omega
  have z0 := zQA_mono (R := R) (show 0 ≤ 7 * wk by omega)
  rw [zQA_0 hR] at z0
  have g1 : zN (zD R ps wk) (zQA R (7 * wk)) = 0 := by
    show (yQL (zD R ps wk) (zQA R (7 * wk)).toNat).length = 0
    rw [zQL_skip2_0 z0 g0]
    rfl
  have g2 := zN_gap (D := zD R ps wk) z0 hq
  refine ⟨by omega, ?_⟩
  unfold zQA
  repeat' split
  all_goals omega
theorem g_in {R : Int → Int} {ru a2 : Nat} (hR : zWR R) {ps : List zP2} (hps : zPok R ps) {wk d : Int} (hwk : 0 ≤ wk ∧ wk ≤ 3) (hd : 7 * wk ≤ d ∧ d < 7 * wk + 7) {al : Nat} {x10 : Int} {b e : Int} (hin : ∀ x : Int, b ≤ x → x < e → zWd ps x = true) : ∀ (m fu : Nat) (q : Int) (v : zHp), (min e (zQA R (d + 1))) ≤ q + (m : Int) → (m = 0 ∨ q + (m : Int) = min e (zQA R (d + 1))) → m < fu → b ≤ q → zQA R d ≤ q → zRC ru v R → zWkC R (zD R ps wk) al wk q v → ∃ v', fX10_gatherDay_L100 fu v a2 ru (al : Int) (if zSev R (zD R ps wk) wk d then 1 else 0) (if zHol R d then 1 else 0) (zQA R d) (zQA R (d + 1)) ((zN (zD R ps wk) (zQA R d) : Nat) : Int) x10 (min e (zQA R (d + 1))) q = some (v', 0) ∧ zWkC R (zD R ps wk) al wk (q + (m : Int)) v' ∧ (∀ a, a ≠ 126 → a ≠ 127 → a ≠ 128 → v' a = v a) ∧ ∀ j, j ≠ 3 → v' 126 j = v 126 j
  | 0, fu, q, v, h1, _, h2, h3, h4, h5, h6 => by
    obtain ⟨k, rfl⟩ : ∃ k, fu = k + 1 := ⟨fu - 1, by omega⟩
    refine ⟨v, ?_, by rw [show q + ((0 : Nat) : Int) = q by omega]; exact h6, fun a _ _ _ => rfl, fun j _ => rfl⟩
    rw [fX10_gatherDay_L100.eq_2, if_pos (by omega)]
  | m + 1, fu, q, v, h1, h1b, h2, h3, h4, h5, h6 => by
    obtain ⟨k, rfl⟩ : ∃ k, fu = k + 1 := ⟨fu - 1, by omega⟩
    have hqe : q + ((m + 1 : Nat) : Int) = min e (zQA R (d + 1)) := by omega
    have hw := hin q h3 (by omega)
    have hb := zWd_b hps hw
    have hdy : zDy R q = d := (zDy_iff hR.1 hb).mpr ⟨h4, by omega⟩
    have k1 := zQA_mono (R := R) hd.1
    have k2 := zQA_mono (R := R) (show d + 1 ≤ 7 * wk + 7 by omega)
    have hD : zD R ps wk q = true := zD_iff.mpr ⟨hw, by omega, by omega⟩
    have hN := zN_676 (ps := ps) hR.1 hwk (show zQA R (7 * wk) ≤ q by omega)
    have hz := @zQA_b R 28
    have hm1 := zN_mono (D := zD R ps wk) h4
    have hinn := zN_t (D := zD R ps wk) hb.1 hD
    have hinl := zN_t1 (D := zD R ps wk) hb.1 hD
    have hr0 := h5.1
    obtain ⟨l1, l2⟩ := h6
    have hk5 : zRC ru (zst v 127 ((zN (zD R ps wk) q : Nat) : Int) q) R := h5.of hR fun a a1 a2 => by
      funext j
      exact zst_na (by omega)
    rw [fX10_gatherDay_L100.eq_2, if_neg (by omega), l1, if_neg (by omega), zn_pos (by omega), c_hourAt h5.2.1 hR.1 hb, zcl_e, l1, zck_pos (by omega), zb_e, zst_na (by decide), l1, zn_pos (by omega), c_steadyBits hR hk5, zcl_e, zck_pos (by omega), zand_n (zmk_31 (by have := hR.2.2.1; omega)), zmk_and, zb_e, zst_na (by decide), zst_na (by decide), l1, zn_pos (by omega), zb_e, zn_pos (by omega)]
    have eB : zmk (fun p => zMy R (zHq R q) (((zN (zD R ps wk) q : Nat) : Int) - ((zN (zD R ps wk) (zQA R d) : Nat) : Int)) (zSev R (zD R ps wk) wk d) (zHol R d) p && al.testBit p) (R 10).toNat = zBi R (zD R ps wk) al wk q := by
      unfold zBi
      rw [hdy]
    rw [eB]
    have nb : ∀ a, a ≠ 126 → a ≠ 127 → a ≠ 128 → zst (zst (zst v 127 ((zN (zD R ps wk) q : Nat) : Int) q) 128 ((zN (zD R ps wk) q : Nat) : Int) ((zBi R (zD R ps wk) al wk q : Nat) : Int)) 126 3 (((zN (zD R ps wk) q : Nat) : Int) + 1) a = v a := fun a a1 a2 a3 => by
      funext j
      rw [zst_na a1, zst_na a3, zst_na a2]
    have nc : ∀ j, j ≠ 3 → zst (zst (zst v 127 ((zN (zD R ps wk) q : Nat) : Int) q) 128 ((zN (zD R ps wk) q : Nat) : Int) ((zBi R (zD R ps wk) al wk q : Nat) : Int)) 126 3 (((zN (zD R ps wk) q : Nat) : Int) + 1) 126 j = v 126 j := fun j hj => by rw [zst_nj hj, zst_na (by decide), zst_na (by decide)]
    have hw2 : zWkC R (zD R ps wk) al wk (q + 1) (zst (zst (zst v 127 ((zN (zD R ps wk) q : Nat) : Int) q) 128 ((zN (zD R ps wk) q : Nat) : Int) ((zBi R (zD R ps wk) al wk q : Nat) : Int)) 126 3 (((zN (zD R ps wk) q : Nat) : Int) + 1)) := by
      refine ⟨by rw [zst_eq, hinl]; rfl, fun i hi => ?_⟩
      rw [hinl] at hi
      rw [zst_na (by decide), zst_na (by decide), zst_if, zst_na (by decide), zst_if, zst_na (by decide), hinn]
      by_cases c : i = zN (zD R ps wk) q
      · have c2 : (i : Int) = ((zN (zD R ps wk) q : Nat) : Int) := by omega
        have e5 : (yQL (zD R ps wk) q.toNat ++ [q]).getD i 0 = q := by rw [c]; exact sn_eq
        rw [if_pos c2, if_pos c2, e5]
        exact ⟨rfl, rfl⟩
      · have c2 : ¬ (i : Int) = ((zN (zD R ps wk) q : Nat) : Int) := by omega
        rw [if_neg c2, if_neg c2, sn_lt (show i < (yQL (zD R ps wk) q.toNat).length by show i < zN (zD R ps wk) q; omega)]
        exact l2 i (by omega)
    generalize zst (zst (zst v 127 ((zN (zD R ps wk) q : Nat) : Int) q) 128 ((zN (zD R ps wk) q : Nat) : Int) ((zBi R (zD R ps wk) al wk q : Nat) : Int)) 126 3 (((zN (zD R ps wk) q : Nat) : Int) + 1) = u at nb nc hw2 ⊢
    obtain ⟨v', g1, g2, g3, g4⟩ := g_in (a2 := a2) (x10 := x10) hR hps hwk hd hin m k (q + 1) u (by omega) (by omega) (by omega) (by omega) (by omega) (h5.of hR fun a a1 a2 => nb a (by omega) (by omega) (by omega)) hw2
    exact ⟨v', g1, by rw [show q + ((m + 1 : Nat) : Int) = q + 1 + (m : Int) by omega]; exact g2, fun a a1 a2 a3 => by rw [g3 a a1 a2 a3, nb a a1 a2 a3], fun j hj => by rw [g4 j hj, nc j hj]⟩
theorem g_pc {R : Int → Int} {ru a2 : Nat} (ha : 28 ≤ a2 ∧ a2 + 2 < 126) (hR : zWR R) {ps : List zP2} (hps : zPok R ps) {wk d : Int} (hwk : 0 ≤ wk ∧ wk ≤ 3) (hd : 7 * wk ≤ d ∧ d < 7 * wk + 7) {al : Nat} : ∀ (m fu i : Nat) (v : zHp), i + m = ps.length → m < fu → zRC ru v R → zCdC v a2 ps → (∃ pos : Int, zQA R d ≤ pos ∧ pos ≤ zQA R (d + 1) ∧ zWkC R (zD R ps wk) al wk pos v ∧ (∀ j : Nat, j < i → ∀ x : Int, pos ≤ x → x < zQA R (d + 1) → ¬ ((ps.getD j zp0).1 ≤ x ∧ x < (ps.getD j zp0).2)) ∧ ∀ j : Nat, i ≤ j → j < ps.length → pos ≤ max (ps.getD j zp0).1 (zQA R d)) → ∃ v', fX10_gatherDay_L63 fu v a2 ru (al : Int) (if zSev R (zD R ps wk) wk d then 1 else 0) (if zHol R d then 1 else 0) (zQA R d) (zQA R (d + 1)) ((zN (zD R ps wk) (zQA R d) : Nat) : Int) (i : Int) = some (v', 0) ∧ zWkC R (zD R ps wk) al wk (zQA R (d + 1)) v' ∧ (∀ a, a ≠ 126 → a ≠ 127 → a ≠ 128 → v' a = v a) ∧ ∀ j, j ≠ 3 → v' 126 j = v 126 j
  | 0, fu, i, v, h1, h2, h3, h4, h5 => by
    obtain ⟨k, rfl⟩ : ∃ k, fu = k + 1 := ⟨fu - 1, by omega⟩
    obtain ⟨pos, p1, p2, p3, p4, p5⟩ := h5
    have hs := h4.1
    have z0 := zQA_mono (R := R) (show 0 ≤ d by omega)
    rw [zQA_0 hR.1] at z0
    refine ⟨v, ?_, ?_, fun a _ _ _ => rfl, fun j _ => rfl⟩
    · rw [fX10_gatherDay_L63.eq_2, if_pos (by omega)]
    · refine p3.mv (yQL_skip2 (by omega) p2 fun x a b => Bool.eq_false_iff.mpr fun c => ?_)
      obtain ⟨j, j1, j2, j3⟩ := zWd_iff.mp (zD_iff.mp c).1
      exact p4 j (by omega) x a b ⟨j2, j3⟩
  | m + 1, fu, i, v, h1, h2, h3, h4, h5 => by
    obtain ⟨k, rfl⟩ : ∃ k, fu = k + 1 := ⟨fu - 1, by omega⟩
    obtain ⟨pos, p1, p2, p3, p4, p5⟩ := h5
    have hs := h4.1
    have hi : i < ps.length := by omega
    obtain ⟨v1, v2⟩ := h4.2 i hi
    have hb := hps.1.1 i hi
    have hz := @zQA_b R 28
    have hl := hps.2
    have z0 := zQA_mono (R := R) (show 0 ≤ d by omega)
    rw [zQA_0 hR.1] at z0
    have p6 := p5 i (Nat.le_refl _) hi
    rw [fX10_gatherDay_L63.eq_2, if_neg (by omega), zck_pos (by omega), zck_pos (by omega), v1, v2]
    have hin : ∀ x : Int, (ps.getD i zp0).1 ≤ x → x < (ps.getD i zp0).2 → zWd ps x = true := fun x a b => zWd_iff.mpr ⟨i, hi, a, b⟩
    have fin : ∀ (u : zHp) (pos' : Int), (∀ a, a ≠ 126 → a ≠ 127 → a ≠ 128 → u a = v a) → (∀ j, j ≠ 3 → u 126 j = v 126 j) → zQA R d ≤ pos' → pos' ≤ zQA R (d + 1) → zWkC R (zD R ps wk) al wk pos' u → (∀ j : Nat, j < i + 1 → ∀ x : Int, pos' ≤ x → x < zQA R (d + 1) → ¬ ((ps.getD j zp0).1 ≤ x ∧ x < (ps.getD j zp0).2)) → (∀ j : Nat, i + 1 ≤ j → j < ps.length → pos' ≤ max (ps.getD j zp0).1 (zQA R d)) → ∃ v', (zn ((i : Int) + 1) fun t30 => fX10_gatherDay_L63 k u a2 ru (al : Int) (if zSev R (zD R ps wk) wk d then 1 else 0) (if zHol R d then 1 else 0) (zQA R d) (zQA R (d + 1)) ((zN (zD R ps wk) (zQA R d) : Nat) : Int) t30) = some (v', 0) ∧ zWkC R (zD R ps wk) al wk (zQA R (d + 1)) v' ∧ (∀ a, a ≠ 126 → a ≠ 127 → a ≠ 128 → v' a = v a) ∧ ∀ j, j ≠ 3 → v' 126 j = v 126 j := fun u pos' u1 u2 u3 u4 u5 u6 u7 => by
      obtain ⟨v', w1, w2, w3, w4⟩ := g_pc (ru := ru) ha hR hps hwk hd m k (i + 1) u (by omega) (by omega) (h3.of hR fun a a1 a2 => u1 a (by omega) (by omega) (by omega)) (by
        unfold zCdC
        rw [u1 a2 (by omega) (by omega) (by omega), u1 (a2 + 1) (by omega) (by omega) (by omega), u1 (a2 + 2) (by omega) (by omega) (by omega)]
        exact h4) ⟨pos', u3, u4, u5, u6, u7⟩
      refine ⟨v', ?_, w2, fun a a1 a2 a3 => by rw [w3 a a1 a2 a3, u1 a a1 a2 a3], fun j hj => by rw [w4 j hj, u2 j hj]⟩
      rw [zn_pos (by omega), show (i : Int) + 1 = ((i + 1 : Nat) : Int) by omega]
      exact w1
    by_cases c : max (ps.getD i zp0).1 (zQA R d) < min (ps.getD i zp0).2 (zQA R (d + 1))
    · have hm : zWkC R (zD R ps wk) al wk (max (ps.getD i zp0).1 (zQA R d)) v := p3.mv (yQL_skip2 (by omega) p6 fun x a b => Bool.eq_false_iff.mpr fun f => by
        obtain ⟨j, j1, j2, j3⟩ := zWd_iff.mp (zD_iff.mp f).1
        by_cases j4 : j < i
        · exact p4 j j4 x a (by omega) ⟨j2, j3⟩
        · by_cases j5 : j = i
          · rw [j5] at j2
            omega
          · have := hps.1.2 i j (by omega) j1
            omega)
      obtain ⟨u, g1, g2, g3, g4⟩ := g_in (ru := ru) (a2 := a2) (x10 := (i : Int)) hR hps hwk hd hin (min (ps.getD i zp0).2 (zQA R (d + 1)) - max (ps.getD i zp0).1 (zQA R d)).toNat zFU (max (ps.getD i zp0).1 (zQA R d)) v (by omega) (by omega) (zFU_lt (by omega)) (by omega) (by omega) h3 hm
      rw [g1, zl_e]
      rw [show max (ps.getD i zp0).1 (zQA R d) + ((min (ps.getD i zp0).2 (zQA R (d + 1)) - max (ps.getD i zp0).1 (zQA R d)).toNat : Int) = min (ps.getD i zp0).2 (zQA R (d + 1)) by omega] at g2
      refine fin u (min (ps.getD i zp0).2 (zQA R (d + 1))) g3 g4 (by omega) (by omega) g2 (fun j hj x a b f => ?_) fun j hj1 hj2 => ?_
      · by_cases j4 : j < i
        · exact p4 j j4 x (by omega) b f
        · rw [show j = i by omega] at f
          omega
      · have := hps.1.2 i j (by omega) hj2
        omega
    · rw [show zFU = 999999 + 1 from rfl, fX10_gatherDay_L100.eq_2, if_pos (by omega), zl_e]
      refine fin v pos (fun a _ _ _ => rfl) (fun j _ => rfl) p1 p2 p3 (fun j hj x a b f => ?_) fun j hj1 hj2 => p5 j (by omega) hj2
      by_cases j4 : j < i
      · exact p4 j j4 x a b f
      · rw [show j = i by omega] at f
        omega
theorem c_gatherDay {R : Int → Int} {ru a2 : Nat} (ha : 28 ≤ a2 ∧ a2 + 2 < 126) (hR : zWR R) {ps : List zP2} (hps : zPok R ps) {wk d : Int} (hwk : 0 ≤ wk ∧ wk ≤ 3) (hd : 7 * wk ≤ d ∧ d < 7 * wk + 7) {al : Nat} {v : zHp} (h3 : zRC ru v R) (h4 : zCdC v a2 ps) (h5 : zWkC R (zD R ps wk) al wk (zQA R d) v) (h6 : v 126 4 = zDw R (zD R ps wk) wk (d - 7 * wk).toNat) : ∃ v', fX10_gatherDay v d a2 ru (al : Int) = some (v', 0) ∧ zWkC R (zD R ps wk) al wk (zQA R (d + 1)) v' ∧ (∀ a, a ≠ 126 → a ≠ 127 → a ≠ 128 → v' a = v a) ∧ ∀ j, j ≠ 3 → v' 126 j = v 126 j := by
  have z0 := zQA_mono (R := R) (show 0 ≤ d by omega)
  rw [zQA_0 hR.1] at z0
  obtain ⟨v', g1, g2, g3, g4⟩ := g_pc (ru := ru) ha hR hps hwk hd (al := al) ps.length zFU 0 v (by omega) (zFU_lt (by have := hps.2; omega)) h3 h4 ⟨zQA R d, Int.le_refl _, by have := zQA_up (R := R) d; omega, h5, fun j hj => absurd hj (Nat.not_lt_zero _), fun j _ _ => by omega⟩
  refine ⟨v', ?_, g2, g3, g4⟩
  have eJ : fX10_gatherDay_J23 v d a2 ru (al : Int) (if zSev R (zD R ps wk) wk d then 1 else 0) = some (v', 0) := by
    unfold fX10_gatherDay_J23
    rw [c_isHoliday hR h3 (by omega), zcl_e, c_quartersAhead h3.2.1 hR.1 (by omega), zcl_e, zn_pos (by omega), c_quartersAhead h3.2.1 hR.1 (by omega), zcl_e, h5.1]
    rw [show ((0 : Nat) : Int) = 0 from rfl] at g1
    rw [g1]
    rfl
  unfold fX10_gatherDay fX10_gatherDay_J22
  rw [Int.tmod_eq_emod_of_nonneg (by omega)]
  by_cases c : d = 7 * wk + 6
  · rw [if_neg (by omega), h6, show (d - 7 * wk).toNat = 6 by omega]
    by_cases c2 : zDw R (zD R ps wk) wk 6 = 6
    · rw [if_neg (by omega)]
      rw [show zSev R (zD R ps wk) wk d = true by unfold zSev; rw [decide_eq_true c, decide_eq_true c2]; rfl] at eJ
      exact eJ
    · rw [if_pos c2]
      rw [show zSev R (zD R ps wk) wk d = false by unfold zSev; rw [decide_eq_false c2, Bool.and_false]] at eJ
      exact eJ
  · rw [if_pos (by omega)]
    rw [show zSev R (zD R ps wk) wk d = false by unfold zSev; rw [decide_eq_false c, Bool.false_and]] at eJ
    exact eJ
theorem g_wk {R : Int → Int} {ru a2 : Nat} (ha : 28 ≤ a2 ∧ a2 + 2 < 126) (hR : zWR R) {ps : List zP2} (hps : zPok R ps) {wk : Int} (hwk : 0 ≤ wk ∧ wk ≤ 3) {al : Nat} : ∀ (m fu e : Nat) (v : zHp), e + m = 7 → m < fu → zRC ru v R → zCdC v a2 ps → zWkC R (zD R ps wk) al wk (zQA R (7 * wk + (e : Int))) v → v 126 4 = zDw R (zD R ps wk) wk e → ∃ v', fX10_gather_L16 fu v wk a2 ru (al : Int) (7 * wk + (e : Int)) = some (v', 0) ∧ zWkC R (zD R ps wk) al wk (zQA R (7 * wk + 7)) v' ∧ (∀ a, a ≠ 126 → a ≠ 127 → a ≠ 128 → v' a = v a) ∧ ∀ j, j ≠ 3 → j ≠ 4 → v' 126 j = v 126 j
  | 0, fu, e, v, h1, h2, h3, h4, h5, h6 => by
    obtain ⟨k, rfl⟩ : ∃ k, fu = k + 1 := ⟨fu - 1, by omega⟩
    refine ⟨v, ?_, ?_, fun a _ _ _ => rfl, fun j _ _ => rfl⟩
    · rw [fX10_gather_L16.eq_2, zn_pos (by omega), if_pos (by omega)]
    · rw [show (7 : Int) * wk + 7 = 7 * wk + (e : Int) by omega]
      exact h5
  | m + 1, fu, e, v, h1, h2, h3, h4, h5, h6 => by
    obtain ⟨k, rfl⟩ : ∃ k, fu = k + 1 := ⟨fu - 1, by omega⟩
    have z0 := zQA_mono (R := R) (show 0 ≤ 7 * wk + (e : Int) by omega)
    rw [zQA_0 hR.1] at z0
    obtain ⟨u, g1, g2, g3, g4⟩ := c_gatherDay (d := 7 * wk + (e : Int)) ha hR hps hwk (by omega) h3 h4 h5 (by rw [show (7 * wk + (e : Int) - 7 * wk).toNat = e by omega]; exact h6)
    rw [fX10_gather_L16.eq_2, zn_pos (by omega), if_neg (by omega), g1, zcl_e, g2.1, h5.1, g4 4 (by decide), h6, zn_pos (by omega), zn_pos (by have := zDw_b (R := R) (D := zD R ps wk) (wk := wk) e; omega), zb_e, zn_pos (by omega), show 7 * wk + (e : Int) + 1 = 7 * wk + ((e + 1 : Nat) : Int) by omega]
    rw [show 7 * wk + (e : Int) + 1 = 7 * wk + ((e + 1 : Nat) : Int) by omega] at g2
    have eD : zDw R (zD R ps wk) wk (e + 1) = if zN (zD R ps wk) (zQA R (7 * wk + (e : Int))) < zN (zD R ps wk) (zQA R (7 * wk + (e : Int) + 1)) then zDw R (zD R ps wk) wk e + 1 else zDw R (zD R ps wk) wk e := rfl
    rw [show 7 * wk + (e : Int) + 1 = 7 * wk + ((e + 1 : Nat) : Int) by omega] at eD
    have fin : ∀ w : zHp, (∀ a, a ≠ 126 → w a = u a) → (∀ j, j ≠ 4 → w 126 j = u 126 j) → w 126 4 = zDw R (zD R ps wk) wk (e + 1) → ∃ v', fX10_gather_L16 k w wk a2 ru (al : Int) (7 * wk + ((e + 1 : Nat) : Int)) = some (v', 0) ∧ zWkC R (zD R ps wk) al wk (zQA R (7 * wk + 7)) v' ∧ (∀ a, a ≠ 126 → a ≠ 127 → a ≠ 128 → v' a = v a) ∧ ∀ j, j ≠ 3 → j ≠ 4 → v' 126 j = v 126 j := fun w w1 w2 w3 => by
      obtain ⟨v', q1, q2, q3, q4⟩ := g_wk (ru := ru) ha hR hps hwk m k (e + 1) w (by omega) (by omega) (h3.of hR fun a a1 a2 => by rw [w1 a (by omega), g3 a (by omega) (by omega) (by omega)]) (by
        unfold zCdC
        rw [w1 a2 (by omega), w1 (a2 + 1) (by omega), w1 (a2 + 2) (by omega), g3 a2 (by omega) (by omega) (by omega), g3 (a2 + 1) (by omega) (by omega) (by omega), g3 (a2 + 2) (by omega) (by omega) (by omega)]
        exact h4) (by
        unfold zWkC
        rw [w2 3 (by decide), w1 127 (by decide), w1 128 (by decide)]
        exact g2) w3
      exact ⟨v', q1, q2, fun a a1 a2 a3 => by rw [q3 a a1 a2 a3, w1 a a1, g3 a a1 a2 a3], fun j j1 j2 => by rw [q4 j j1 j2, w2 j j2, g4 j j1]⟩
    by_cases c : zN (zD R ps wk) (zQA R (7 * wk + (e : Int))) < zN (zD R ps wk) (zQA R (7 * wk + ((e + 1 : Nat) : Int)))
    · rw [if_pos c] at eD
      rw [if_neg (by omega)]
      exact fin _ (fun a ha => by funext j; exact zst_na ha) (fun j hj => zst_nj hj) (by rw [zst_eq, eD])
    · rw [if_neg c] at eD
      rw [if_pos (by omega)]
      exact fin u (fun a _ => rfl) (fun j _ => rfl) (by rw [g4 4 (by decide), h6, eD])
theorem c_gather {R : Int → Int} {ru a2 : Nat} (ha : 28 ≤ a2 ∧ a2 + 2 < 126) (hR : zWR R) {ps : List zP2} (hps : zPok R ps) {wk : Int} (hwk : 0 ≤ wk ∧ wk ≤ 3) {al : Nat} {v : zHp} (h3 : zRC ru v R) (h4 : zCdC v a2 ps) : ∃ v', fX10_gather v wk a2 ru (al : Int) = some (v', 0) ∧ zWkC R (zD R ps wk) al wk (zQA R (7 * wk + 7)) v' ∧ (∀ a, a ≠ 126 → a ≠ 127 → a ≠ 128 → v' a = v a) := by
  have z0 := zQA_mono (R := R) (show 0 ≤ 7 * wk by omega)
  rw [zQA_0 hR.1] at z0
  have hr0 := h3.1
  have n : ∀ a, a ≠ 126 → zst (zst v 126 3 0) 126 4 0 a = v a := fun a ha => by funext j; rw [zst_na ha, zst_na ha]
  have e0 : yQL (zD R ps wk) (zQA R (7 * wk + ((0 : Nat) : Int))).toNat = [] := by
    rw [show 7 * wk + ((0 : Nat) : Int) = 7 * wk by omega]
    exact zQL_skip2_0 z0 fun x _ a => Bool.eq_false_iff.mpr fun b => by
      have := (zD_iff.mp b).2.1
      omega
  obtain ⟨v', g1, g2, g3, g4⟩ := g_wk (ru := ru) ha hR hps hwk (al := al) 7 zFU 0 (zst (zst v 126 3 0) 126 4 0) rfl (zFU_lt (by decide)) (h3.of hR fun a a1 a2 => n a (by omega)) (by
    unfold zCdC
    rw [n a2 (by omega), n (a2 + 1) (by omega), n (a2 + 2) (by omega)]
    exact h4) (by
    unfold zWkC zN
    rw [e0]
    exact ⟨by rw [zst_nj (by decide), zst_eq]; rfl, fun i hi => absurd hi (Nat.not_lt_zero _)⟩) (by rw [zst_eq]; rfl)
  refine ⟨v', ?_, g2, fun a a1 a2 a3 => by rw [g3 a a1 a2 a3, n a a1]⟩
  unfold fX10_gather
  rw [zb_e, zb_e, zn_pos (by omega), show wk * 7 = 7 * wk + ((0 : Nat) : Int) by omega, g1]
  rfl
