/-! PURE: a line read by both: once-lines. My own text. -/
/-- the drafts are alike -/
def zDr (ru : Nat) (vC vM : zHp) : Prop := zRC ru vC (vM 140) ∧ zWR (vM 140)
def xPc (T : Nat) : Nat := T % 2 + T / 2 % 2 + T / 4 % 2 + T / 8 % 2 + T / 16 % 2
theorem xPc_b (T : Nat) : xPc T ≤ 5 := by
  unfold xPc
  omega
theorem xPc_s : ∀ T : Nat, T < 32 → ∀ i : Nat, i < 5 → T.testBit i = false → xPc (T ||| 2 ^ i) = xPc T + 1 := by decide +kernel
/-- how many lines were good -/
def xU (T : Nat) (v : zHp) : Nat := xPc T + (v 140 9).toNat + (v 140 10).toNat
def xOut (B : Nat → Int) (N ru : Nat) (c0 m0 : zHp) (u s : Nat) (co : (zHp → Option (zHp × Int)) → Option (zHp × Int)) (mo : Option (zHp × Int)) : Prop := (∃ vC' vM' s' e' t' T', (∀ K, co K = K vC') ∧ mo = some (vM', 1) ∧ xGd B N ru T' c0 m0 vC' vM' s' e' t' ∧ s < s' ∧ zDr ru vC' vM' ∧ xU T' vM' = u + 1) ∨ ∃ (F : Int) (vC' vM' : zHp), (∀ K, co K = K vC') ∧ mo = some (vM', 0) ∧ xBd B N ru F c0 vC' ∧ xBM F m0 vM'
theorem zDr.of {ru : Nat} {vC vM vC' vM' : zHp} (h : zDr ru vC vM) (h1 : ∀ a, a ≠ 1 → a ≠ 3 → vC' a = vC a) (h2 : vM' 140 = vM 140) : zDr ru vC' vM' := by
  unfold zDr
  rw [h2]
  exact ⟨h.1.of h.2 fun a a1 a2 => h1 a (by omega) (by omega), h.2⟩
/-- a plain number of the draft -/
theorem zDr.set {ru : Nat} {vC vM : zHp} (h : zDr ru vC vM) {m x : Int} (hm : 0 ≤ m ∧ m ≤ 4) (hb : (m = 0 → 0 ≤ x ∧ x ≤ 14) ∧ (m = 1 → 0 ≤ x ∧ x ≤ 96) ∧ (m = 2 → 0 ≤ x ∧ x ≤ 16) ∧ (m = 3 → 1 ≤ x ∧ x ≤ 24) ∧ (m = 4 → 1 ≤ x ∧ x ≤ 400)) : zDr ru (zst vC ru (m + 5) x) (zst vM 140 m x) := by
  obtain ⟨⟨h1, h2, h3, h4, h5⟩, w1, w2, w3, w4⟩ := h
  have e : ∀ k, zst vM 140 m x 140 k = if k = m then x else vM 140 k := fun k => zst_if
  have ne : ∀ k, k ≠ m → zst vM 140 m x 140 k = vM 140 k := fun k hk => zst_nj hk
  have na : ∀ a, a ≠ ru → zst vC ru (m + 5) x a = vC a := fun a ha => by funext j; exact zst_na ha
  have nj : ∀ j, j ≠ m + 5 → zst vC ru (m + 5) x ru j = vC ru j := fun j hj => zst_nj hj
  obtain ⟨b0, b1, b2, b3, b4⟩ := hb
  refine ⟨⟨h1, ?_, ?_, fun p hp f f0 f4 => ?_, fun d d0 d1 => ?_⟩, ?_, ?_, ?_, fun p hp => ?_⟩
  · unfold zCK zTurn zShift at h2 ⊢
    rw [na (ru + 1) (by omega), ne 5 (by omega), ne 6 (by omega), ne 7 (by omega)]
    exact h2
  · obtain ⟨g1, g2, g3, g4, g5, g6, g7⟩ := h3
    refine ⟨by rw [nj 2 (by omega), ne 10 (by omega)]; exact g1, by rw [nj 4 (by omega), ne 9 (by omega)]; exact g2, ?_, ?_, ?_, ?_, ?_⟩
    · by_cases c : m = 0
      · rw [zst_if, zst_if, if_pos (show (5 : Int) = m + 5 by omega), if_pos (show (0 : Int) = m by omega)]
      · rw [nj 5 (by omega), ne 0 (by omega)]; exact g3
    · by_cases c : m = 1
      · rw [zst_if, zst_if, if_pos (show (6 : Int) = m + 5 by omega), if_pos (show (1 : Int) = m by omega)]
      · rw [nj 6 (by omega), ne 1 (by omega)]; exact g4
    · by_cases c : m = 2
      · rw [zst_if, zst_if, if_pos (show (7 : Int) = m + 5 by omega), if_pos (show (2 : Int) = m by omega)]
      · rw [nj 7 (by omega), ne 2 (by omega)]; exact g5
    · by_cases c : m = 3
      · rw [zst_if, zst_if, if_pos (show (8 : Int) = m + 5 by omega), if_pos (show (3 : Int) = m by omega)]
      · rw [nj 8 (by omega), ne 3 (by omega)]; exact g6
    · by_cases c : m = 4
      · rw [zst_if, zst_if, if_pos (show (9 : Int) = m + 5 by omega), if_pos (show (4 : Int) = m by omega)]
      · rw [nj 9 (by omega), ne 4 (by omega)]; exact g7
  · rw [ne 10 (by omega)] at hp
    rw [na _ (by omega), ne _ (by omega)]
    exact h4 p hp f f0 f4
  · rw [na _ (by omega), ne 9 (by omega), ne 8 (by omega)]
    exact h5 d d0 d1
  · unfold zWk
    rw [ne 5 (by omega), ne 6 (by omega), ne 7 (by omega)]
    exact w1
  · rw [e 0, e 1, e 2, e 3, e 4]
    obtain ⟨q1, q2, q3, q4, q5, q6, q7, q8, q9, q10⟩ := w2
    refine ⟨?_, ?_, ?_, ?_, ?_, ?_, ?_, ?_, ?_, ?_⟩
    all_goals split
    all_goals omega
  · rw [ne 9 (by omega), ne 10 (by omega), ne 8 (by omega)]
    exact w3
  · rw [ne 10 (by omega)] at hp
    rw [ne (11 + 5 * (p : Int) + 0) (by omega), ne (11 + 5 * (p : Int) + 1) (by omega), ne (11 + 5 * (p : Int) + 2) (by omega), ne (11 + 5 * (p : Int) + 3) (by omega), ne (11 + 5 * (p : Int) + 4) (by omega)]
    exact w4 p hp
theorem xU_st {T : Nat} {v : zHp} {m x : Int} (hm : m ≠ 9 ∧ m ≠ 10) : xU T (zst v 140 m x) = xU T v := by
  unfold xU
  rw [zst_nj (by omega), zst_nj (by omega)]
theorem xU_of {T : Nat} {v v' : zHp} (h : v' 140 = v 140) : xU T v' = xU T v := by
  unfold xU
  rw [h]
theorem xU_once {T : Nat} {v : zHp} {i : Nat} (hT : T < 32) (hi : i < 5) (h : T.testBit i = false) : xU (T ||| 2 ^ i) v = xU T v + 1 := by
  unfold xU
  rw [xPc_s T hT i hi h]
  omega
/-- a line of one number -/
theorem ln_one {B : Nat → Int} {N ru T : Nat} {c0 m0 vC vM : zHp} {s e : Nat} {t : Int} (h : xGd B N ru T c0 m0 vC vM s e t) (ht : t = 1) (hd : zDr ru vC vM) {i : Nat} (hi : i < 5) {m lo hi' : Int} (hm : 0 ≤ m ∧ m ≤ 4) (h0 : 0 ≤ lo) (h1 : hi' ≤ 9999) (hb : ∀ x, lo ≤ x → x ≤ hi' → (m = 0 → 0 ≤ x ∧ x ≤ 14) ∧ (m = 1 → 0 ≤ x ∧ x ≤ 96) ∧ (m = 2 → 0 ≤ x ∧ x ≤ 16) ∧ (m = 3 → 1 ≤ x ∧ x ≤ 24) ∧ (m = 4 → 1 ≤ x ∧ x ≤ 400)) : xOut B N ru c0 m0 (xU T vM) s (fun K => zcl (fX6_passOnce vC ((2 ^ i : Nat) : Int)) fun v59 _ => zcl (fX6_readNumber v59 lo hi') fun v62 r63 => zb (zst v62 ru (m + 5) r63) fun v65 => K v65) (fX12_oneLine vM (i : Int) m lo hi') := by
  have hse : s < e := by
    rcases h.2.2.1.2.2.1 with a | a
    · omega
    · exact a.2
  have hT := h.2.2.2.2.1.2.2
  unfold fX12_oneLine
  rcases gd_once h hi with ⟨b, vC1, vM1, s1, e1, t1, a1, a2, a3, a4, a5, a6⟩ | ⟨b, F, vC1, vM1, a1, a2, a3, a4, a5⟩
  · rw [a2, zcl_e, if_neg n10]
    rcases gd_num a3 h0 h1 with ⟨ht2, g1, g2, vC2, vM2, s2, e2, t2, q1, q2, q3, q4, q5, q6, q7⟩ | ⟨_, x, F, vC2, vM2, q1, q2, q3, q4, q5, q6, q7, _, _⟩
    · left
      have hd2 : zDr ru vC2 vM2 := (hd.of a5 a6).of (fun a x1 _ => q5 a x1) q6
      rw [q2, zcl_e, if_pos p10, zck_pos (by omega), q7, zb_e]
      refine ⟨_, _, s2, e2, t2, T ||| 2 ^ i, fun K => by dsimp only; rw [a1, zcl_e, q1, zcl_e, zb_e], rfl, gd_stM (gd_st q3 (a := ru) (by omega) (m + 5) (xVal B s1 e1)) m (xVal B s1 e1), ?_, hd2.set hm (hb _ g1 g2), ?_⟩
      · have := a3.2.2.1.1
        omega
      · rw [xU_st (by omega), xU_of q6, xU_of a6, xU_once hT hi b]
    · right
      rw [q2, zcl_e, if_neg n00]
      exact ⟨F, _, vM2, fun K => by dsimp only; rw [a1, zcl_e, q1, zcl_e, zb_e], rfl, bd_st q3 (by omega) (m + 5) x, q4⟩
  · right
    obtain ⟨x, q1, _, _⟩ := bd_num a3 lo hi'
    rw [a2, zcl_e, if_pos z00]
    exact ⟨F, _, vM1, fun K => by dsimp only; rw [a1, zcl_e, q1, zcl_e, zb_e], rfl, bd_st a3 (by omega) (m + 5) x, a4⟩
/-- the meal's -/
theorem ln_meal {B : Nat → Int} {N ru T : Nat} {c0 m0 vC vM : zHp} {s e : Nat} {t : Int} (h : xGd B N ru T c0 m0 vC vM s e t) (ht : t = 1) (hd : zDr ru vC vM) : xOut B N ru c0 m0 (xU T vM) s (fun K => zcl (fX6_passOnce vC 4) fun v48 _ => zcl (fX6_readNumber v48 1 96) fun v51 r52 => zb (zst v51 ru 6 r52) fun v54 => zcl (fX6_readNumber v54 1 16) fun v55 r56 => zb (zst v55 ru 7 r56) fun v58 => K v58) (fX12_mealLine vM) := by
  have hse : s < e := by
    rcases h.2.2.1.2.2.1 with a | a
    · omega
    · exact a.2
  have hT := h.2.2.2.2.1.2.2
  unfold fX12_mealLine
  rcases gd_once h (i := 2) (by decide) with ⟨b, vC1, vM1, s1, e1, t1, a1, a2, a3, a4, a5, a6⟩ | ⟨b, F, vC1, vM1, a1, a2, a3, a4, a5⟩
  · rw [show ((2 ^ 2 : Nat) : Int) = 4 from rfl] at a1
    rw [show ((2 : Nat) : Int) = 2 from rfl] at a2
    rw [a2, zcl_e, if_neg n10]
    rcases gd_num a3 (lo := 1) (hi := 96) (by decide) (by decide) with ⟨ht2, g1, g2, vC2, vM2, s2, e2, t2, q1, q2, q3, q4, q5, q6, q7⟩ | ⟨_, x, F, vC2, vM2, q1, q2, q3, q4, q5, q6, q7, _, _⟩
    · have hd2 : zDr ru vC2 vM2 := (hd.of a5 a6).of (fun a x1 _ => q5 a x1) q6
      have hd3 := hd2.set (m := 1) (x := xVal B s1 e1) (by decide) (by omega)
      rw [show (1 : Int) + 5 = 6 from rfl] at hd3
      have h3 := gd_stM (gd_st q3 (a := ru) (by omega) 6 (xVal B s1 e1)) 1 (xVal B s1 e1)
      rw [q2, zcl_e, if_pos p10, zck_pos (by decide), q7, zb_e]
      rcases gd_num h3 (lo := 1) (hi := 16) (by decide) (by decide) with ⟨ht3, k1, k2, vC3, vM3, s3, e3, t3, r1, r2, r3, r4, r5, r6, r7⟩ | ⟨_, x, F, vC3, vM3, r1, r2, r3, r4, r5, r6, r7, _, _⟩
      · left
        have hd4 : zDr ru vC3 vM3 := hd3.of (fun a x1 _ => r5 a x1) r6
        have hd5 := hd4.set (m := 2) (x := xVal B s2 e2) (by decide) (by omega)
        rw [show (2 : Int) + 5 = 7 from rfl] at hd5
        rw [r2, zcl_e, if_pos p10, zck_pos (by decide), r7, zb_e]
        refine ⟨_, _, s3, e3, t3, T ||| 2 ^ 2, fun K => by dsimp only; rw [a1, zcl_e, q1, zcl_e, zb_e, r1, zcl_e, zb_e], rfl, gd_stM (gd_st r3 (a := ru) (by omega) 7 (xVal B s2 e2)) 2 (xVal B s2 e2), ?_, hd5, ?_⟩
        · have := a3.2.2.1.1
          have := q3.2.2.1.1
          omega
        · rw [xU_st (by decide), xU_of r6, xU_st (by decide), xU_of q6, xU_of a6, xU_once hT (by decide) b]
      · right
        rw [r2, zcl_e, if_neg n00]
        exact ⟨F, _, vM3, fun K => by dsimp only; rw [a1, zcl_e, q1, zcl_e, zb_e, r1, zcl_e, zb_e], rfl, bd_st r3 (by omega) 7 x, r4⟩
    · right
      obtain ⟨y, r1, _, _⟩ := bd_num (bd_st q3 (a := ru) (by omega) 6 x) 1 16
      rw [q2, zcl_e, if_neg n00]
      exact ⟨F, _, vM2, fun K => by dsimp only; rw [a1, zcl_e, q1, zcl_e, zb_e, r1, zcl_e, zb_e], rfl, bd_st (bd_st q3 (a := ru) (by omega) 6 x) (by omega) 7 y, q4⟩
  · right
    rw [show ((2 ^ 2 : Nat) : Int) = 4 from rfl] at a1
    rw [show ((2 : Nat) : Int) = 2 from rfl] at a2
    obtain ⟨x, q1, _, _⟩ := bd_num a3 1 96
    obtain ⟨y, r1, _, _⟩ := bd_num (bd_st a3 (a := ru) (by omega) 6 x) 1 16
    rw [a2, zcl_e, if_pos z00]
    exact ⟨F, _, vM1, fun K => by dsimp only; rw [a1, zcl_e, q1, zcl_e, zb_e, r1, zcl_e, zb_e], rfl, bd_st (bd_st a3 (a := ru) (by omega) 6 x) (by omega) 7 y, a4⟩
