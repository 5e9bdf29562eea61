/-! PURE: a line read by both: a holiday's. My own text. -/
theorem hol_bits {a : Int} (ha : 0 ≤ a ∧ a < 268435456) {x : Int} (hx : 0 ≤ x ∧ x ≤ 27) : (0 ≤ zor a (zshl 1 x) ∧ zor a (zshl 1 x) < 268435456) ∧ ∀ d : Int, 0 ≤ d → d ≤ 27 → (zand (zshr (zor a (zshl 1 x)) d) 1 = 1 ↔ d = x ∨ zand (zshr a d) 1 = 1) := by
  obtain ⟨n, rfl⟩ : ∃ n : Nat, a = (n : Int) := ⟨a.toNat, by omega⟩
  obtain ⟨k, rfl⟩ : ∃ k : Nat, x = (k : Int) := ⟨x.toNat, by omega⟩
  have hn : n < 2 ^ 28 := by
    have : (2 : Nat) ^ 28 = 268435456 := by decide
    omega
  have hk : (2 : Nat) ^ k < 2 ^ 28 := Nat.pow_lt_pow_right (by decide) (by omega)
  have h31 : (2 : Nat) ^ 28 < 2 ^ 31 := by decide
  have e1 : zshl 1 (k : Int) = ((2 ^ k : Nat) : Int) := by
    have := zshl_n (m := 1) (k := k) (by omega) (by rw [Nat.one_mul]; omega)
    rw [Nat.one_mul] at this
    exact this
  have hor : n ||| 2 ^ k < 2 ^ 28 := Nat.or_lt_two_pow hn hk
  rw [e1, zor_n (by omega) (by omega)]
  refine ⟨⟨by omega, ?_⟩, fun d d0 d1 => ?_⟩
  · have : (2 : Nat) ^ 28 = 268435456 := by decide
    omega
  · obtain ⟨j, rfl⟩ : ∃ j : Nat, d = (j : Int) := ⟨d.toNat, by omega⟩
    rw [zbit_n (by omega) (by omega), zbit_n (by omega) (by omega), Nat.testBit_or, Nat.testBit_two_pow]
    by_cases c : k = j
    · rw [decide_eq_true c, Bool.or_true]
      exact ⟨fun _ => Or.inl (by omega), fun _ => rfl⟩
    · rw [decide_eq_false c, Bool.or_false]
      exact ⟨fun g => Or.inr g, fun g => g.resolve_left (by omega)⟩
/-- is it a holiday: whatever is asked -/
theorem holt_L {ru : Nat} {v : zHp} {n : Nat} (hn : v ru 4 = (n : Int)) (h4 : n ≤ 4) {d : Int} : ∀ (m fu i : Nat), i + m = n → m < fu → ∃ r : Int, zlf (fX7_isHoliday_L2 fu v ru d (i : Int)) (fun v3 _ => some (v3, 0)) = some (v, r)
  | 0, fu, i, h1, h2 => by
    obtain ⟨k, rfl⟩ : ∃ k, fu = k + 1 := ⟨fu - 1, by omega⟩
    rw [fX7_isHoliday_L2.eq_2, hn, if_pos (by omega), zlf_e]
    exact ⟨0, rfl⟩
  | m + 1, fu, i, h1, h2 => by
    obtain ⟨k, rfl⟩ : ∃ k, fu = k + 1 := ⟨fu - 1, by omega⟩
    rw [fX7_isHoliday_L2.eq_2, hn, if_neg (by omega), zck_pos (by omega)]
    by_cases c : v (ru + 3) (i : Int) = d
    · rw [if_neg (fun g => g c), zlf_i]
      exact ⟨1, rfl⟩
    · rw [if_pos c, zn_pos (by omega), show (i : Int) + 1 = ((i + 1 : Nat) : Int) by omega]
      exact holt_L hn h4 m k (i + 1) (by omega) (by omega)
theorem zDr.feast {ru : Nat} {vC vM vC' vM' : zHp} (h : zDr ru vC vM) {x : Int} (hx : 0 ≤ x ∧ x ≤ 27) (h4 : vM 140 9 < 4) (hC : ∀ a, 4 ≤ a → a ≠ ru → a ≠ ru + 3 → vC' a = vC a) (hC1 : ∀ j : Int, vC' ru j = if j = 4 then vM 140 9 + 1 else vC ru j) (hC2 : ∀ j : Int, vC' (ru + 3) j = if j = vM 140 9 then x else vC (ru + 3) j) (hM : ∀ j : Int, vM' 140 j = if j = 9 then vM 140 9 + 1 else if j = 8 then zor (vM 140 8) (zshl 1 x) else vM 140 j) : zDr ru vC' vM' := by
  obtain ⟨⟨h1, h2, h3, h4', h5⟩, w1, w2, w3, w4⟩ := h
  have ne : ∀ j : Int, (j < 8 ∨ 9 < j) → vM' 140 j = vM 140 j := fun j hj => by rw [hM, if_neg (by omega), if_neg (by omega)]
  have e9 : vM' 140 9 = vM 140 9 + 1 := by rw [hM, if_pos rfl]
  have e8 : vM' 140 8 = zor (vM 140 8) (zshl 1 x) := by rw [hM, if_neg (by decide), if_pos rfl]
  obtain ⟨hb1, hb2⟩ := hol_bits ⟨w3.2.2.2.2.1, w3.2.2.2.2.2⟩ hx
  refine ⟨⟨h1, ?_, ?_, fun p hp f f0 f4 => ?_, fun d d0 d1 => ?_⟩, ?_, ?_, ?_, fun p hp => ?_⟩
  · unfold zCK zTurn zShift at h2 ⊢
    rw [hC (ru + 1) (by omega) (by omega) (by omega), ne 5 (by omega), ne 6 (by omega), ne 7 (by omega)]
    exact h2
  · rw [hC1, hC1, hC1, hC1, hC1, hC1, hC1, ne 10 (by omega), e9, ne 0 (by omega), ne 1 (by omega), ne 2 (by omega), ne 3 (by omega), ne 4 (by omega)]
    rw [if_neg (by decide), if_pos rfl, if_neg (by decide), if_neg (by decide), if_neg (by decide), if_neg (by decide), if_neg (by decide)]
    exact ⟨h3.1, rfl, h3.2.2⟩
  · rw [ne 10 (by omega)] at hp
    rw [hC _ (by omega) (by omega) (by omega), ne _ (by omega)]
    exact h4' p hp f f0 f4
  · rw [e9, e8, hb2 d d0 d1]
    constructor
    · rintro ⟨i, i0, i1, i2⟩
      rw [hC2] at i2
      by_cases c : i = vM 140 9
      · rw [if_pos c] at i2
        exact Or.inl i2.symm
      · rw [if_neg c] at i2
        exact Or.inr ((h5 d d0 d1).mp ⟨i, i0, by omega, i2⟩)
    · rintro (g | g)
      · exact ⟨vM 140 9, w3.1, by omega, by rw [hC2, if_pos rfl]; exact g.symm⟩
      · obtain ⟨i, i0, i1, i2⟩ := (h5 d d0 d1).mpr g
        exact ⟨i, i0, by omega, by rw [hC2, if_neg (by omega)]; exact i2⟩
  · unfold zWk
    rw [ne 5 (by omega), ne 6 (by omega), ne 7 (by omega)]
    exact w1
  · rw [ne 0 (by omega), ne 1 (by omega), ne 2 (by omega), ne 3 (by omega), ne 4 (by omega)]
    exact w2
  · rw [e9, ne 10 (by omega), e8]
    omega
  · rw [ne 10 (by omega)] at hp
    rw [ne (11 + 5 * (p : Int) + 0) (by omega), ne (11 + 5 * (p : Int) + 1) (by omega), ne (11 + 5 * (p : Int) + 2) (by omega), ne (11 + 5 * (p : Int) + 3) (by omega), ne (11 + 5 * (p : Int) + 4) (by omega)]
    exact w4 p hp
theorem ln_feast {B : Nat → Int} {N ru T : Nat} {c0 m0 vC vM : zHp} {s e : Nat} {t : Int} (h : xGd B N ru T c0 m0 vC vM s e t) (ht : t = 1) (hd : zDr ru vC vM) : xOut B N ru c0 m0 (xU T vM) s (fun K => zcl (fX6_readHoliday vC ru) fun v66 _ => K v66) (fX12_feastLine vM) := by
  have hse : s < e := by
    rcases h.2.2.1.2.2.1 with a | a
    · omega
    · exact a.2
  have hru := h.2.2.2.2.2.2.2.2
  have w3 := hd.2.2.2.1
  have w9 : vC ru 4 = vM 140 9 := hd.1.2.2.1.2.1
  unfold fX12_feastLine fX6_readHoliday
  rw [zck_pos (by decide), w9]
  by_cases c : vM 140 9 = 4
  · right
    obtain ⟨z1, _, z2, z3, z4⟩ := gd_bad h (k := 3) (by decide) 0
    rw [if_neg (show ¬ vM 140 9 < 4 by omega), if_neg (show ¬ vM 140 9 ≠ 4 from fun g => g c), h.1.2.2.1, z4, zcl_e, z3, zcl_e, zck_pos (by decide)]
    exact ⟨_, _, _, fun K => rfl, rfl, z1, z2⟩
  · rw [if_pos c, if_pos (by omega : vM 140 9 < 4)]
    obtain ⟨vC1, vM1, s1, e1, t1, a1, a2, a3, a4, a5, a6, a7⟩ := gd_adv h
    have hd1 : zDr ru vC1 vM1 := hd.of (fun a x1 _ => a5 a x1) a6
    have hs1 : vC1 1 4 = (s1 : Int) := a3.1.2.2.1
    have h6 : vM1 137 6 = t1 := a3.2.1.2.1
    have h9 : vM1 140 9 = vM 140 9 := by rw [a6]
    have hN : s1 ≤ 400 := by
      have := a3.2.2.1.1
      have := a3.2.2.1.2.1
      have := a3.2.2.2.2.2.2.2.1.1
      omega
    rw [a1, zcl_e, a2, zcl_e, hs1, h6]
    -- what is put down at the end
    have put : ∀ (F : Int) (v : zHp) (x : Int), xBd B N ru F c0 v → v ru = vC ru → -1 ≤ x → x ≤ 9999 → ∃ v', fX6_readHoliday_J52 v ru x = some (v', 0) ∧ xBd B N ru F c0 v' := fun F v x hv e1 x0 x1 => by
      unfold fX6_readHoliday_J52
      rw [e1, w9, zck_pos (by omega), zb_e, zst_na (by omega), e1, w9, zn_pos (by omega), zb_e]
      exact ⟨_, rfl, bd_st (bd_st hv (by omega) _ _) (by omega) _ _⟩
    rcases gd_num a3 (lo := 0) (hi := 27) (by decide) (by decide) with ⟨ht2, g1, g2, vC2, vM2, s2, e2, t2, q1, q2, q3, q4, q5, q6, q7⟩ | ⟨hno, x, F, vC2, vM2, q1, q2, q3, q4, q5, q6, q7, _, _⟩
    · have h7 : vM1 137 7 = xVal B s1 e1 := a3.2.1.2.2.2.2.1 ht2
      have hd2 : zDr ru vC2 vM2 := hd1.of (fun a x1 _ => q5 a x1) q6
      rw [if_neg (fun g => g ht2), m_within, zcl_e, h7, if_pos (show 0 ≤ xVal B s1 e1 ∧ xVal B s1 e1 ≤ 27 from ⟨g1, g2⟩), if_neg n10, zck_pos (by decide), q1, zcl_e, c_isHoliday hd2.2 hd2.1 ⟨g1, g2⟩, zcl_e]
      generalize hX : xVal B s1 e1 = X at *
      have eH : zHol (vM2 140) X = decide (zand (zshr (vM1 140 8) X) 1 = 1) := by
        unfold zHol
        rw [q6]
      rw [eH]
      by_cases b : zand (zshr (vM1 140 8) X) 1 = 1
      · right
        obtain ⟨_, _, z2, z3, _⟩ := gd_bad a3 (k := 2) (by decide) 0
        have z1 := gd_badC q3 (F := 8 * (s1 : Int) + 2) (by omega)
        obtain ⟨y, y1, y2⟩ := put _ _ X z1 (by
          funext j
          rw [zst_na (by omega), q5 ru (by omega), a5 ru (by omega)]) (by omega) (by omega)
        rw [decide_eq_true b, if_pos (rfl : (true : Bool) = true), if_neg n10, if_neg (show ¬ zand (zshr (vM1 140 8) X) 1 ≠ 1 from fun g => g b), z3, zcl_e, zck_pos (by decide), c_ref1 q3.2.2.2.1.1 hN (by decide), zcl_e, y1]
        exact ⟨_, y, _, fun K => rfl, rfl, y2, z2⟩
      · left
        rw [if_pos b, decide_eq_false b, if_neg (show ¬ (false : Bool) = true by decide), if_pos z00]
        have eC : vC2 ru 4 = vM 140 9 := by rw [q5 ru (by omega), a5 ru (by omega)]; exact w9
        have eJ : fX6_readHoliday_J52 vC2 ru X = some (zst (zst vC2 (ru + 3) (vM 140 9) X) ru 4 (vM 140 9 + 1), 0) := by
          unfold fX6_readHoliday_J52
          rw [eC, zck_pos (by omega), zb_e, zst_na (by omega), eC, zn_pos (by omega), zb_e]
        have eK : fX12_feastLine_J66 vM1 = some (zst (zst vM2 140 8 (zor (vM 140 8) (zshl 1 X))) 140 9 (vM 140 9 + 1), 1) := by
          unfold fX12_feastLine_J66
          rw [q2, zcl_e, if_pos p10, zck_pos (by decide), zck_pos (by decide), q7, zb_e, zck_pos (by decide), zst_nj (by decide), q6, a6, zn_pos (by omega), zck_pos (by decide), zb_e]
        have hfin := gd_stM (gd_stM (gd_st (gd_st q3 (a := ru + 3) (by omega) (vM 140 9) X) (a := ru) (by omega) 4 (vM 140 9 + 1)) 8 (zor (vM 140 8) (zshl 1 X))) 9 (vM 140 9 + 1)
        refine ⟨_, _, s2, e2, t2, T, fun K => by dsimp only; rw [eJ, zcl_e], eK, hfin, ?_, hd.feast (x := X) ⟨g1, g2⟩ (by omega) (fun a a0 a1' a2' => ?_) (fun j => ?_) (fun j => ?_) (fun j => ?_), ?_⟩
        · have := a3.2.2.1.1
          omega
        · funext j
          rw [zst_na a1', zst_na a2', q5 a (by omega), a5 a (by omega)]
        · rw [zst_if, zst_na (by omega), q5 ru (by omega), a5 ru (by omega)]
        · rw [zst_na (by omega), zst_if, q5 (ru + 3) (by omega), a5 (ru + 3) (by omega)]
        · rw [zst_if, zst_if, q6, a6]
        · unfold xU
          rw [zst_eq, zst_nj (by decide), zst_nj (by decide), q6, a6]
          omega
    · right
      obtain ⟨r, r1⟩ : ∃ r : Int, fX7_isHoliday vC2 ru x = some (vC2, r) := by
        have hn : vC2 ru 4 = (((vM 140 9).toNat : Nat) : Int) := by
          rw [q7 ru (by omega) (by omega), a5 ru (by omega), w9]
          omega
        exact holt_L hn (by omega) (vM 140 9).toNat zFU 0 (by omega) (zFU_lt (by omega))
      obtain ⟨y, y1, y2⟩ := put F vC2 x q3 (by
        funext j
        rw [q7 ru (by omega) (by omega), a5 ru (by omega)]) q5 q6
      have eM : (if t1 ≠ 2 then fX12_feastLine_J66 vM1 else zcl (fX12_within vM1 (vM1 137 7) 0 27) fun v15 r16 => if r16 = 0 then (fX12_feastLine_J66 v15) else (zck (0 ≤ (8 : Int) ∧ (8 : Int) < 51) <| if zand (zshr (v15 140 8) (v15 137 7)) 1 ≠ 1 then (fX12_feastLine_J66 v15) else (zcl (fX12_bad v15 2) fun v19 r20 => zck (r20 = 0 ∨ r20 = 1) <| some (v19, r20)))) = some (vM2, 0) := by
        have j66 : fX12_feastLine_J66 vM1 = some (vM2, 0) := by
          unfold fX12_feastLine_J66
          rw [q2, zcl_e, if_neg n00]
        by_cases c2 : t1 = 2
        · have h7 : vM1 137 7 = xVal B s1 e1 := a3.2.1.2.2.2.2.1 c2
          rw [if_neg (fun g => g c2), m_within, zcl_e, h7, if_neg (show ¬ (0 ≤ xVal B s1 e1 ∧ xVal B s1 e1 ≤ 27) from fun g => hno ⟨c2, g.1, g.2⟩), if_pos z00, j66]
        · rw [if_pos c2, j66]
      refine ⟨F, y, vM2, fun K => ?_, eM, y2, q4⟩
      dsimp only
      rw [q1, zcl_e, r1, zcl_e]
      by_cases c2 : r = 0
      · rw [if_pos c2, y1, zcl_e]
      · rw [if_neg c2, c_ref0 q3.nf, zcl_e, y1, zcl_e]
