/-! PURE: the class pays a week whole; are two rows of pieces the same within a week? My own text. -/
theorem c_payWeek {R : Int → Int} {ru a0 c P al m wk : Nat} {ps : List zP2} {v : zHp} (hR : zWR R) (hal : al < 2 ^ 31) (hps : zPok R ps) (hs : zSC a0 c) (hP : v a0 9 = (P : Int)) (hP2 : P = a0 + 8 ∨ P = a0 + 11) (hwk : wk < 4) (h3 : zRC ru v R) (h4 : zCdC v P ps) (hm : v a0 12 = (m : Int)) (hm2 : m < 16) (hcl : ∀ q : Int, zQA R (7 * (wk : Int)) ≤ q → q < zQA R (7 * (wk : Int) + 7) → v (a0 + 5) q = -2 ∧ v (a0 + 6) q = -2) : ∃ v', fX8_payWeek v a0 (wk : Int) ru (al : Int) = some (v', 0) ∧ zSW R al (zD R ps (wk : Int)) (wk : Int) v' a0 ∧ v' a0 12 = ((m ||| 2 ^ wk : Nat) : Int) ∧ (∀ j, j ≠ 12 → v' a0 j = v a0 j) ∧ (∀ j : Int, j ≠ (wk : Int) → v' (a0 + 14) j = v (a0 + 14) j) ∧ (∀ q : Int, ¬ (zQA R (7 * (wk : Int)) ≤ q ∧ q < zQA R (7 * (wk : Int) + 7)) → v' (a0 + 5) q = v (a0 + 5) q ∧ v' (a0 + 6) q = v (a0 + 6) q ∧ v' (a0 + 7) q = v (a0 + 7) q) ∧ ∀ a, a ≠ a0 → a ≠ a0 + 5 → a ≠ a0 + 6 → a ≠ a0 + 7 → a ≠ a0 + 14 → (a < 125 ∨ 136 < a) → v' a = v a := by
  obtain ⟨s1, s2, s3, s4, s5, s6, s7⟩ := id hs
  have hr0 := h3.1
  have hK : 0 ≤ (P : Int) ∧ zK P = (4, 3) := ⟨by omega, by rcases hP2 with h | h <;> rw [h]; exact s6; exact s7⟩
  have hw4 : 0 ≤ (wk : Int) ∧ (wk : Int) ≤ 3 := by omega
  have z0 := zQA_mono (R := R) (show 0 ≤ 7 * (wk : Int) by omega)
  rw [zQA_0 hR.1] at z0
  have z1 := zQA_mono (R := R) (show 7 * (wk : Int) ≤ 7 * (wk : Int) + 7 by omega)
  have z2 := zQA_mono (R := R) (show 7 * (wk : Int) + 7 ≤ 28 by omega)
  have z3 := @zQA_b R 28
  have hN := zN_676 (ps := ps) hR.1 hw4 z1
  obtain ⟨u1, g1, g2, g3⟩ := c_gather (ru := ru) (a2 := P) (al := al) (by omega) hR hps hw4 h3 h4
  have hbl : (yBl R (zD R ps (wk : Int)) al (wk : Int)).length = zN (zD R ps (wk : Int)) (zQA R (7 * (wk : Int) + 7)) := yBl_len
  have hbn : (yBl R (zD R ps (wk : Int)) al (wk : Int)).length ≤ 676 := by omega
  have hok := yBl_ok hR (D := zD R ps (wk : Int)) (al := al) (wk := (wk : Int))
  have k126 : u1 126 3 = ((yBl R (zD R ps (wk : Int)) al (wk : Int)).length : Int) := by rw [g2.1, hbl]
  have k128 : ∀ j : Nat, j < (yBl R (zD R ps (wk : Int)) al (wk : Int)).length → u1 128 (j : Int) = (((yBl R (zD R ps (wk : Int)) al (wk : Int)).getD j 0 : Nat) : Int) := fun j hj => by
    rw [hbl] at hj
    rw [(g2.2 j hj).2, yBl_get hj]
  have k127 : ∀ j : Nat, j < (yBl R (zD R ps (wk : Int)) al (wk : Int)).length → u1 127 (j : Int) = (yLq R (zD R ps (wk : Int)) (wk : Int)).getD j 0 := fun j hj => by
    rw [hbl] at hj
    exact (g2.2 j hj).1
  have hr1 : zRC ru u1 R := h3.of hR fun a a1 a2 => g3 a (by omega) (by omega) (by omega)
  obtain ⟨u2, q1, q2, q3⟩ := c_came (al := al) (ru := ru) hR hok hbn hr1 k126 k128
  generalize hB : yBl R (zD R ps (wk : Int)) al (wk : Int) = bs at *
  have n2 : ∀ a, a ≠ 126 → a ≠ 127 → a ≠ 128 → a ≠ 129 → u2 a = v a := fun a a1 a2 a3 a4 => by rw [q3 a a4, g3 a a1 a2 a3]
  obtain ⟨u3, w1, w2, w3⟩ := cpa_L (D := zD R ps (wk : Int)) (T := zQA R (7 * (wk : Int) + 7)) (a0 := a0) (a2 := ru) (x1 := (wk : Int)) (x3 := (al : Int)) (n := bs.length) (by omega) (by omega) hbl hbn (g := fun j => (yCm R al bs 0).getD j 0) (f0 := u2 (a0 + 6)) bs.length zFU 0 u2 (by omega) (zFU_lt (by omega)) (by rw [q3 126 (by decide)]; exact k126) (by rw [q3 127 (by decide)]; exact k127) q2 (fun q => by rw [if_neg (fun h => absurd h.2 (Nat.not_lt_zero _))])
  have n3 : ∀ a, a ≠ 126 → a ≠ 127 → a ≠ 128 → a ≠ 129 → a ≠ a0 + 6 → u3 a = v a := fun a a1 a2 a3 a4 a5 => by rw [w3 a a5, n2 a a1 a2 a3 a4]
  obtain ⟨u4, x1, x2, x3⟩ := c_payBest (ru := ru) (al := al) (bs := bs) hR hal hok hbn (v := u3) (h3.of hR fun a a1 a2 => n3 a (by omega) (by omega) (by omega) (by omega) (by omega)) (by rw [w3 126 (by omega), q3 126 (by decide)]; exact k126) (by rw [w3 128 (by omega), q3 128 (by decide)]; exact k128)
  have n4 : ∀ a, (a < 125 ∨ 136 < a) → a ≠ a0 + 6 → u4 a = v a := fun a a1 a2 => by rw [x3 a (by omega), n3 a (by omega) (by omega) (by omega) (by omega) a2]
  obtain ⟨u5, y1, y2, y3, y4⟩ := cpb_L (D := zD R ps (wk : Int)) (T := zQA R (7 * (wk : Int) + 7)) (a0 := a0) (a2 := ru) (x1 := (wk : Int)) (x6 := yW R al bs 0) (n := bs.length) (by omega) (by omega) hbl hbn (g := fun j => (yB R al bs 0).getD j 0) (g2 := fun j => (((yMs R al bs 0).getD j 0 : Nat) : Int)) (f0 := u4 (a0 + 5)) (f2 := u4 (a0 + 7)) bs.length zFU 0 u4 (by omega) (zFU_lt (by omega)) (by rw [x3 126 (by omega), w3 126 (by omega), q3 126 (by decide)]; exact k126) (by rw [x3 127 (by omega), w3 127 (by omega), q3 127 (by decide)]; exact k127) (fun j hj => (x2 j hj).1) (fun j hj => (x2 j hj).2) (fun q => by rw [if_neg (fun h => absurd h.2 (Nat.not_lt_zero _))]) (fun q => by rw [if_neg (fun h => absurd h.2 (Nat.not_lt_zero _))])
  have n5 : ∀ a, (a < 125 ∨ 136 < a) → a ≠ a0 + 5 → a ≠ a0 + 6 → a ≠ a0 + 7 → u5 a = v a := fun a a1 a2 a3 a4 => by rw [y4 a a2 a4, n4 a a1 a3]
  have hWb := yW_b hR (al := al) bs 0
  have hR4 := hR.2.1
  have hmul : 0 ≤ R 4 * (100 * (bs.length : Int) + yW R al bs 0) ∧ R 4 * (100 * (bs.length : Int) + yW R al bs 0) ≤ 400 * 270400 := by
    have h1 : 0 ≤ R 4 := by omega
    have h2 : 0 ≤ 100 * (bs.length : Int) + yW R al bs 0 := by omega
    exact ⟨Int.mul_nonneg h1 h2, Int.mul_le_mul (by omega) (by omega) h2 (by omega)⟩
  have r9 : u5 ru 9 = R 4 := by rw [n5 ru (by omega) (by omega) (by omega) (by omega)]; exact h3.2.2.1.2.2.2.2.2.2
  have r126 : u5 126 3 = (bs.length : Int) := by rw [y4 126 (by omega) (by omega), x3 126 (by omega), w3 126 (by omega), q3 126 (by decide)]; exact k126
  have u5a0 : u5 a0 = v a0 := n5 a0 (by omega) (by omega) (by omega) (by omega)
  have pw : 2 ^ wk < 2 ^ 4 := Nat.pow_lt_pow_right (by decide) hwk
  have ez : zor (v a0 12) (zshl 1 (wk : Int)) = ((m ||| 2 ^ wk : Nat) : Int) := by
    rw [hm, show (1 : Int) = ((1 : Nat) : Int) from rfl, zshl_n (by omega) (by rw [Nat.one_mul]; omega), Nat.one_mul, zor_n (by omega) (by omega)]
  have f5 : ∀ q : Int, zst (zst u5 (a0 + 14) (wk : Int) (R 4 * (100 * (bs.length : Int) + yW R al bs 0))) a0 12 ((m ||| 2 ^ wk : Nat) : Int) (a0 + 5) q = if (zD R ps (wk : Int) q = true ∧ 0 ≤ q ∧ q < zQA R (7 * (wk : Int) + 7)) ∧ zN (zD R ps (wk : Int)) q < bs.length then (yB R al bs 0).getD (zN (zD R ps (wk : Int)) q) 0 else v (a0 + 5) q := fun q => by
    rw [zst_na (by omega), zst_na (by omega), y2 q, n4 (a0 + 5) (by omega) (by omega)]
  have f6 : ∀ q : Int, zst (zst u5 (a0 + 14) (wk : Int) (R 4 * (100 * (bs.length : Int) + yW R al bs 0))) a0 12 ((m ||| 2 ^ wk : Nat) : Int) (a0 + 6) q = if (zD R ps (wk : Int) q = true ∧ 0 ≤ q ∧ q < zQA R (7 * (wk : Int) + 7)) ∧ zN (zD R ps (wk : Int)) q < bs.length then (yCm R al bs 0).getD (zN (zD R ps (wk : Int)) q) 0 else v (a0 + 6) q := fun q => by
    rw [zst_na (by omega), zst_na (by omega), y4 (a0 + 6) (by omega) (by omega), x3 (a0 + 6) (by omega), w2 q, n2 (a0 + 6) (by omega) (by omega) (by omega) (by omega)]
  have f7 : ∀ q : Int, zst (zst u5 (a0 + 14) (wk : Int) (R 4 * (100 * (bs.length : Int) + yW R al bs 0))) a0 12 ((m ||| 2 ^ wk : Nat) : Int) (a0 + 7) q = if (zD R ps (wk : Int) q = true ∧ 0 ≤ q ∧ q < zQA R (7 * (wk : Int) + 7)) ∧ zN (zD R ps (wk : Int)) q < bs.length then (((yMs R al bs 0).getD (zN (zD R ps (wk : Int)) q) 0 : Nat) : Int) else v (a0 + 7) q := fun q => by
    rw [zst_na (by omega), zst_na (by omega), y3 q, n4 (a0 + 7) (by omega) (by omega)]
  refine ⟨zst (zst u5 (a0 + 14) (wk : Int) (R 4 * (100 * (bs.length : Int) + yW R al bs 0))) a0 12 ((m ||| 2 ^ wk : Nat) : Int), ?_, ⟨fun q b1 b2 => ?_, ?_⟩, zst_eq, fun j hj => by rw [zst_nj hj, zst_na (by omega), u5a0], fun j hj => by rw [zst_na (by omega), zst_nj hj, n5 (a0 + 14) (by omega) (by omega) (by omega) (by omega)], fun q hq => ?_, fun a a1 a2 a3 a4 a5 a6 => by funext j; rw [zst_na a1, zst_na a5, n5 a a6 a2 a3 a4]⟩
  · rw [show ((0 : Nat) : Int) = 0 from rfl] at w1 y1
    unfold fX8_payWeek
    rw [hP, Int.toNat_natCast, zb_e, zck_pos hK, g1, zcl_e, q1, zcl_e, w1, zl_e, x1, zcl_e, y1, zl_e, r9, r126, zn_pos (by omega), zck_pos (by omega), zb_e, zst_na (by omega), u5a0, ez, zb_e]
  · rw [hB, f5 q, f6 q, f7 q]
    obtain ⟨c1, c2⟩ := hcl q b1 b2
    by_cases d : zD R ps (wk : Int) q = true
    · have hat := (yQL_at (show 0 ≤ q by omega) d b2).1
      rw [← hbl] at hat
      have big : (zD R ps (wk : Int) q = true ∧ 0 ≤ q ∧ q < zQA R (7 * (wk : Int) + 7)) ∧ zN (zD R ps (wk : Int)) q < bs.length := ⟨⟨d, by omega, b2⟩, hat⟩
      rw [if_pos big, if_pos big, if_pos big, if_pos d, if_pos d]
      exact ⟨rfl, rfl, fun _ => rfl⟩
    · have big : ¬ ((zD R ps (wk : Int) q = true ∧ 0 ≤ q ∧ q < zQA R (7 * (wk : Int) + 7)) ∧ zN (zD R ps (wk : Int)) q < bs.length) := fun h => d h.1.1
      rw [if_neg big, if_neg big, if_neg d, if_neg d]
      exact ⟨c1, c2, fun h => absurd h d⟩
  · rw [hB, zst_na (by omega), zst_eq]
  · rw [f5 q, f6 q, f7 q]
    have d : ¬ ((zD R ps (wk : Int) q = true ∧ 0 ≤ q ∧ q < zQA R (7 * (wk : Int) + 7)) ∧ zN (zD R ps (wk : Int)) q < bs.length) := fun h => hq (zD_iff.mp h.1.1).2
    rw [if_neg d, if_neg d, if_neg d]
    exact ⟨rfl, rfl, rfl⟩
/-! the same within a week? -/
theorem fb2_L {P : Nat} {ps : List zP2} {v : zHp} (h : zCdC v P ps) (hl : ps.length ≤ 60) {F : Int} : ∀ (m fu i : Nat), i + m = ps.length → m < fu → (∀ j : Nat, j < i → (ps.getD j zp0).2 ≤ F) → ∃ k : Nat, fX4_firstBehind_L2 fu v P F (i : Int) = some (v, (k : Int)) ∧ k ≤ ps.length ∧ ∀ j : Nat, j < k → (ps.getD j zp0).2 ≤ F
  | 0, fu, i, h1, h2, h3 => by
    obtain ⟨k, rfl⟩ : ∃ k, fu = k + 1 := ⟨fu - 1, by omega⟩
    have hs := h.1
    refine ⟨i, ?_, by omega, h3⟩
    rw [fX4_firstBehind_L2.eq_2, if_pos (by omega)]
  | m + 1, fu, i, h1, h2, h3 => by
    obtain ⟨k, rfl⟩ : ∃ k, fu = k + 1 := ⟨fu - 1, by omega⟩
    have hs := h.1
    have hv := (h.2 i (by omega)).2
    rw [fX4_firstBehind_L2.eq_2, if_neg (by omega), zck_pos (by omega), hv]
    by_cases c : F < (ps.getD i zp0).2
    · rw [if_pos c]
      exact ⟨i, rfl, by omega, h3⟩
    · rw [if_neg c, zn_pos (by omega), show (i : Int) + 1 = ((i + 1 : Nat) : Int) by omega]
      exact fb2_L h hl m k (i + 1) (by omega) (by omega) fun j hj => by
        by_cases e : j = i
        · rw [e]; omega
        · exact h3 j (by omega)
theorem c_firstBehind {P : Nat} {ps : List zP2} {v : zHp} (h : zCdC v P ps) (hl : ps.length ≤ 60) (F : Int) : ∃ k : Nat, fX4_firstBehind v P F = some (v, (k : Int)) ∧ k ≤ ps.length ∧ ∀ j : Nat, j < k → (ps.getD j zp0).2 ≤ F := by
  obtain ⟨k, h1, h2, h3⟩ := fb2_L h hl (F := F) ps.length zFU 0 (by omega) (zFU_lt (by omega)) (fun j hj => absurd hj (Nat.not_lt_zero _))
  refine ⟨k, ?_, h2, h3⟩
  rw [show ((0 : Nat) : Int) = 0 from rfl] at h1
  unfold fX4_firstBehind
  rw [h1]
  rfl
/-- pieces in order, of any bounds -/
abbrev zPs1 (ps : List zP2) : Prop := zPo 0 10000 ps ∧ ps.length ≤ 60
theorem zWd_cut {ps : List zP2} (hp : zPo 0 10000 ps) {F T : Int} {m0 n : Nat} (h0 : ∀ j : Nat, j < m0 → (ps.getD j zp0).2 ≤ F) (h1 : ps.length ≤ m0 + n ∨ T ≤ (ps.getD (m0 + n) zp0).1) {q : Int} (hq : F ≤ q ∧ q < T) : zWd ps q = true ↔ ∃ s : Nat, s < n ∧ m0 + s < ps.length ∧ max (ps.getD (m0 + s) zp0).1 F ≤ q ∧ q < min (ps.getD (m0 + s) zp0).2 T := by
  rw [zWd_iff]
  constructor
  · rintro ⟨j, j1, j2, j3⟩
    have a1 : m0 ≤ j := by
      by_cases a : m0 ≤ j
      · exact a
      · have := h0 j (by omega)
        omega
    have a2 : j < m0 + n := by
      by_cases a : j < m0 + n
      · exact a
      · rcases h1 with h1 | h1
        · omega
        · by_cases e : j = m0 + n
          · rw [e] at j2
            omega
          · have e2 := hp.2 (m0 + n) j (by omega) j1
            have e3 := hp.1 (m0 + n) (by omega)
            omega
    refine ⟨j - m0, by omega, by omega, ?_⟩
    rw [show m0 + (j - m0) = j by omega]
    omega
  · rintro ⟨s, s1, s2, s3, s4⟩
    exact ⟨m0 + s, s2, by omega, by omega⟩
theorem same_L {P E : Nat} {ps pt : List zP2} {v : zHp} (hP : zCdC v P ps) (hE : zCdC v E pt) (hp : zPs1 ps) (ht : zPs1 pt) {F T : Int} {m0 t0 : Nat} (hm : m0 ≤ ps.length ∧ ∀ j : Nat, j < m0 → (ps.getD j zp0).2 ≤ F) (hn : t0 ≤ pt.length ∧ ∀ j : Nat, j < t0 → (pt.getD j zp0).2 ≤ F) : ∀ (d fu s : Nat), m0 + s + d = ps.length → d < fu → t0 + s ≤ pt.length → (∀ x : Nat, x < s → max (ps.getD (m0 + x) zp0).1 F = max (pt.getD (t0 + x) zp0).1 F ∧ min (ps.getD (m0 + x) zp0).2 T = min (pt.getD (t0 + x) zp0).2 T) → ∃ r : Int, zlf (fX4_sameWithin_L17 fu v P E F T ((m0 : Int) + (s : Int)) ((t0 : Int) + (s : Int)) (s : Int)) (fun v16 _ => some (v16, 1)) = some (v, r) ∧ (r ≠ 0 → ∀ q : Int, F ≤ q → q < T → zWd ps q = zWd pt q) := by
  intro d
  induction d with
  | zero =>
    intro fu s h1 h2 h3 h4
    obtain ⟨k, rfl⟩ : ∃ k, fu = k + 1 := ⟨fu - 1, by omega⟩
    have hs := hP.1
    have hs2 := hE.1
    have hl := hp.2
    have hl2 := ht.2
    rw [fX4_sameWithin_L17.eq_2, if_neg (by omega), if_pos (by omega)]
    unfold fX4_sameWithin_J50 fX4_sameWithin_J51 fX4_sameWithin_J79 fX4_sameWithin_J80
    have yes : (pt.length ≤ t0 + s ∨ T ≤ (pt.getD (t0 + s) zp0).1) → ∀ q : Int, F ≤ q → q < T → zWd ps q = zWd pt q := fun hstop q q1 q2 => by
      have e1 := zWd_cut hp.1 (n := s) hm.2 (Or.inl (by omega)) ⟨q1, q2⟩
      have e2 := zWd_cut ht.1 (n := s) hn.2 hstop ⟨q1, q2⟩
      rw [Bool.eq_iff_iff, e1, e2]
      constructor
      · rintro ⟨x, x1, x2, x3, x4⟩
        obtain ⟨y1, y2⟩ := h4 x x1
        exact ⟨x, x1, by omega, by omega, by omega⟩
      · rintro ⟨x, x1, x2, x3, x4⟩
        obtain ⟨y1, y2⟩ := h4 x x1
        exact ⟨x, x1, by omega, by omega, by omega⟩
    by_cases c : pt.length ≤ t0 + s
    · rw [if_pos (by omega), if_pos rfl, if_neg (fun h => h rfl), zlf_i]
      exact ⟨1, rfl, fun _ => yes (Or.inl c)⟩
    · have hv2 := hE.2 (t0 + s) (by omega)
      rw [show (((t0 + s : Nat) : Int)) = (t0 : Int) + (s : Int) by omega] at hv2
      rw [if_neg (by omega), zck_pos (by omega), hv2.1]
      by_cases c2 : T ≤ (pt.getD (t0 + s) zp0).1
      · rw [if_pos c2, if_pos rfl, if_neg (fun h => h rfl), zlf_i]
        exact ⟨1, rfl, fun _ => yes (Or.inr c2)⟩
      · rw [if_neg c2, if_neg (by decide), zlf_i]
        exact ⟨0, rfl, fun h => absurd rfl h⟩
  | succ d ih =>
    intro fu s h1 h2 h3 h4
    obtain ⟨k, rfl⟩ : ∃ k, fu = k + 1 := ⟨fu - 1, by omega⟩
    have hs := hP.1
    have hs2 := hE.1
    have hl := hp.2
    have hl2 := ht.2
    have hv1 := hP.2 (m0 + s) (by omega)
    rw [show (((m0 + s : Nat) : Int)) = (m0 : Int) + (s : Int) by omega] at hv1
    rw [fX4_sameWithin_L17.eq_2, if_neg (by omega), if_neg (by omega), zck_pos (by omega), hv1.1]
    by_cases c0 : T ≤ (ps.getD (m0 + s) zp0).1
    · rw [if_pos c0]
      unfold fX4_sameWithin_J50 fX4_sameWithin_J51 fX4_sameWithin_J79 fX4_sameWithin_J80
      have yes : (pt.length ≤ t0 + s ∨ T ≤ (pt.getD (t0 + s) zp0).1) → ∀ q : Int, F ≤ q → q < T → zWd ps q = zWd pt q := fun hstop q q1 q2 => by
        have e1 := zWd_cut hp.1 (n := s) hm.2 (Or.inr c0) ⟨q1, q2⟩
        have e2 := zWd_cut ht.1 (n := s) hn.2 hstop ⟨q1, q2⟩
        rw [Bool.eq_iff_iff, e1, e2]
        constructor
        · rintro ⟨x, x1, x2, x3, x4⟩
          obtain ⟨y1, y2⟩ := h4 x x1
          exact ⟨x, x1, by omega, by omega, by omega⟩
        · rintro ⟨x, x1, x2, x3, x4⟩
          obtain ⟨y1, y2⟩ := h4 x x1
          exact ⟨x, x1, by omega, by omega, by omega⟩
      by_cases c : pt.length ≤ t0 + s
      · rw [if_pos (by omega), if_pos rfl, if_neg (fun h => h rfl), zlf_i]
        exact ⟨1, rfl, fun _ => yes (Or.inl c)⟩
      · have hv2 := hE.2 (t0 + s) (by omega)
        rw [show (((t0 + s : Nat) : Int)) = (t0 : Int) + (s : Int) by omega] at hv2
        rw [if_neg (by omega), zck_pos (by omega), hv2.1]
        by_cases c2 : T ≤ (pt.getD (t0 + s) zp0).1
        · rw [if_pos c2, if_pos rfl, if_neg (fun h => h rfl), zlf_i]
          exact ⟨1, rfl, fun _ => yes (Or.inr c2)⟩
        · rw [if_neg c2, if_neg (by decide), zlf_i]
          exact ⟨0, rfl, fun h => absurd rfl h⟩
    · rw [if_neg c0]
      unfold fX4_sameWithin_J51 fX4_sameWithin_J79 fX4_sameWithin_J80
      by_cases c : pt.length ≤ t0 + s
      · rw [if_pos (by omega), if_neg (by decide), zlf_i]
        exact ⟨0, rfl, fun h => absurd rfl h⟩
      · have hv2 := hE.2 (t0 + s) (by omega)
        rw [show (((t0 + s : Nat) : Int)) = (t0 : Int) + (s : Int) by omega] at hv2
        rw [if_neg (by omega), zck_pos (by omega), hv2.1]
        by_cases c2 : T ≤ (pt.getD (t0 + s) zp0).1
        · rw [if_pos c2, if_neg (by decide), zlf_i]
          exact ⟨0, rfl, fun h => absurd rfl h⟩
        · rw [if_neg c2, if_pos rfl, if_pos (by decide), zck_pos (by omega), zck_pos (by omega), hv1.1, hv1.2, hv2.2, zck_pos (by omega), zck_pos (by omega)]
          by_cases c3 : max (ps.getD (m0 + s) zp0).1 F = max (pt.getD (t0 + s) zp0).1 F
          · rw [if_neg (by omega)]
            by_cases c4 : min (ps.getD (m0 + s) zp0).2 T = min (pt.getD (t0 + s) zp0).2 T
            · rw [if_pos c4, zn_pos (by omega), zn_pos (by omega), zn_pos (by omega)]
              have := ih k (s + 1) (by omega) (by omega) (by omega) (fun x hx => by
                by_cases e : x = s
                · rw [e]
                  exact ⟨c3, c4⟩
                · exact h4 x (by omega))
              rw [show ((s + 1 : Nat) : Int) = (s : Int) + 1 by omega, ← Int.add_assoc, ← Int.add_assoc] at this
              exact this
            · rw [if_neg c4, zlf_i]
              exact ⟨0, rfl, fun h => absurd rfl h⟩
          · rw [if_pos c3, zlf_i]
            exact ⟨0, rfl, fun h => absurd rfl h⟩
theorem c_sameWithin {P E : Nat} {ps pt : List zP2} {v : zHp} (hP : zCdC v P ps) (hE : zCdC v E pt) (hp : zPs1 ps) (ht : zPs1 pt) (F T : Int) : ∃ r : Int, fX4_sameWithin v P E F T = some (v, r) ∧ (r ≠ 0 → ∀ q : Int, F ≤ q → q < T → zWd ps q = zWd pt q) := by
  obtain ⟨m0, a1, a2⟩ := c_firstBehind hP hp.2 F
  obtain ⟨t0, b1, b2⟩ := c_firstBehind hE ht.2 F
  obtain ⟨r, c1, c2⟩ := same_L hP hE hp ht (T := T) a2 b2 (ps.length - m0) zFU 0 (by omega) (zFU_lt (by have := hp.2; omega)) (by omega) (fun x hx => absurd hx (Nat.not_lt_zero _))
  rw [show ((0 : Nat) : Int) = 0 from rfl, Int.add_zero, Int.add_zero] at c1
  refine ⟨r, ?_, c2⟩
  unfold fX4_sameWithin
  rw [a1, zcl_e, b1, zcl_e]
  exact c1
