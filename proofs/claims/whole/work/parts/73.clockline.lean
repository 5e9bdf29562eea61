/-! PURE: a line read by both: the clock's, a holiday's. My own text. -/
theorem gd_badC {B : Nat → Int} {N ru T : Nat} {c0 m0 vC vM : zHp} {s e : Nat} {t : Int} (h : xGd B N ru T c0 m0 vC vM s e t) {F : Int} (hF : 1 ≤ F ∧ F ≤ 3203) : xBd B N ru F c0 (zst vC 3 0 F) := by
  obtain ⟨⟨c1, c2, c3, c4, c5⟩, hM, hT, ⟨f1, f2⟩, hTo, gC, gM, hB, hru⟩ := h
  have na : ∀ b, b ≠ 3 → zst vC 3 0 F b = vC b := fun b hb => by funext i; exact zst_na hb
  refine ⟨⟨s, e, t, ⟨?_, ?_, ?_, ?_, ?_⟩, hT⟩, zst_eq, hF, ⟨fun i a1 a2 a3 => ?_, fun b b1 b2 b3 => ?_⟩, hB, hru⟩
  · rw [na 1 (by decide)]; exact c1
  · rw [na 1 (by decide)]; exact c2
  · rw [na 1 (by decide)]; exact c3
  · rw [na 1 (by decide)]; exact c4
  · rw [na 2 (by decide)]; exact c5
  · rw [na 1 (by decide)]; exact gC.1 i a1 a2 a3
  · rw [na b b2]; exact gC.2 b b1 b2 b3
theorem c_set (v : zHp) (a : Nat) {d h k : Int} (hd : -1 ≤ d ∧ d ≤ 9999) (hh : -1 ≤ h ∧ h ≤ 9999) : fX2_set v a d h k = some (zst (zst (zst (zst (zst v a 0 d) a 1 h) a 2 k) a 3 (d * 1440 + h * 60)) a 4 (if k = 1 then -60 else if k = 0 then 60 else 0), 0) := by
  unfold fX2_set
  rw [zb_e, zb_e, zb_e, zn_pos (by omega), zb_e]
  by_cases c : k = 1
  · rw [if_neg (fun g => g c), if_pos c, zb_e]
  · rw [if_pos c, if_neg c]
    by_cases c0 : k = 0
    · rw [if_neg (fun g => g c0), if_pos c0, zb_e]
    · rw [if_pos c0, if_neg c0, zb_e]
theorem bd_set {B : Nat → Int} {N ru : Nat} {F : Int} {v0 v : zHp} (h : xBd B N ru F v0 v) {d h' k : Int} (hd : -1 ≤ d ∧ d ≤ 9999) (hh : -1 ≤ h' ∧ h' ≤ 9999) : ∃ v', fX2_set v (ru + 1) d h' k = some (v', 0) ∧ xBd B N ru F v0 v' :=
  ⟨_, c_set v (ru + 1) hd hh, bd_st (bd_st (bd_st (bd_st (bd_st h (by omega) 0 d) (by omega) 1 h') (by omega) 2 k) (by omega) 3 _) (by omega) 4 _⟩
/-- the clock's line, from behind its two numbers -/
def xCk (v10 : zHp) (a2 : Nat) (r5 r8 : Int) : Option (zHp × Int) := zcl (fX9_tells v10 1) fun v10 r11 => if r11 ≠ 0 then (fX6_readClock_J49 v10 a2 r5 r8 r11) else (zcl (fX9_tells v10 2) fun v22 r23 => if r23 = 0 then (fX6_readClock_J54 v22 a2 r5 r8 r11 0) else (fX6_readClock_J49 v22 a2 r5 r8 r11))
theorem xCk_e (v : zHp) (a2 : Nat) : fX6_readClock v a2 = zcl (fX6_passOnce v 1) fun v1 _ => zcl (fX6_readNumber v1 0 27) fun v4 r5 => zcl (fX6_readNumber v4 0 23) fun v7 r8 => xCk v7 a2 r5 r8 := rfl
theorem bd_ck {B : Nat → Int} {N ru : Nat} {F : Int} {v0 v : zHp} (h : xBd B N ru F v0 v) {d h' : Int} (hd : -1 ≤ d ∧ d ≤ 9999) (hh : -1 ≤ h' ∧ h' ≤ 9999) : ∃ v', xCk v ru d h' = some (v', 0) ∧ xBd B N ru F v0 v' := by
  obtain ⟨r1, a1, a2⟩ := bd_tells h xw_forward
  obtain ⟨r2, b1, b2⟩ := bd_tells h xw_back
  have j54 : ∀ s2 : Int, ∃ v', fX6_readClock_J54 v ru d h' r1 s2 = some (v', 0) ∧ xBd B N ru F v0 v' := fun s2 => by
    obtain ⟨x, x1, x2⟩ := bd_set h (k := 0) hd hh
    obtain ⟨y, y1, y2⟩ := bd_set h (k := 1) hd hh
    unfold fX6_readClock_J54
    rw [bd_pass h, zcl_e]
    by_cases c : r1 = 0
    · rw [if_pos c, x1, zcl_e]
      exact ⟨x, rfl, x2⟩
    · rw [if_neg c, y1, zcl_e]
      exact ⟨y, rfl, y2⟩
  unfold xCk fX6_readClock_J49
  rw [a1, zcl_e]
  by_cases c : r1 ≠ 0
  · rw [if_pos c]
    exact j54 1
  · rw [if_neg c, b1, zcl_e]
    split
    · exact j54 0
    · exact j54 1
theorem zDr.clock {ru : Nat} {vC vM vC' vM' : zHp} (h : zDr ru vC vM) {d h' k : Int} (hd : 0 ≤ d ∧ d ≤ 27) (hh : 0 ≤ h' ∧ h' ≤ 23) (hk : k = 0 ∨ k = 1) (hC : ∀ a, 4 ≤ a → a ≠ ru + 1 → vC' a = vC a) (hc : zCK (ru + 1) vC' (vM' 140)) (hM : ∀ j : Int, vM' 140 j = if j = 7 then k else if j = 6 then h' else if j = 5 then d else vM 140 j) : zDr ru vC' vM' := by
  obtain ⟨⟨h1, h2, h3, h4, h5⟩, w1, w2, w3, w4⟩ := h
  have ne : ∀ j : Int, (j < 5 ∨ 7 < j) → vM' 140 j = vM 140 j := fun j hj => by rw [hM, if_neg (by omega), if_neg (by omega), if_neg (by omega)]
  have e5 : vM' 140 5 = d := by rw [hM, if_neg (by decide), if_neg (by decide), if_pos rfl]
  have e6 : vM' 140 6 = h' := by rw [hM, if_neg (by decide), if_pos rfl]
  have e7 : vM' 140 7 = k := by rw [hM, if_pos rfl]
  refine ⟨⟨h1, hc, ?_, fun p hp f f0 f4 => ?_, fun x d0 d1 => ?_⟩, ?_, ?_, ?_, fun p hp => ?_⟩
  · rw [hC ru (by omega) (by omega), ne 10 (by omega), ne 9 (by omega), ne 0 (by omega), ne 1 (by omega), ne 2 (by omega), ne 3 (by omega), ne 4 (by omega)]
    exact h3
  · rw [ne 10 (by omega)] at hp
    rw [hC _ (by omega) (by omega), ne _ (by omega)]
    exact h4 p hp f f0 f4
  · rw [hC _ (by omega) (by omega), ne 9 (by omega), ne 8 (by omega)]
    exact h5 x d0 d1
  · unfold zWk
    rw [e5, e6, e7]
    omega
  · rw [ne 0 (by omega), ne 1 (by omega), ne 2 (by omega), ne 3 (by omega), ne 4 (by omega)]
    exact w2
  · rw [ne 9 (by omega), ne 10 (by omega), ne 8 (by omega)]
    exact w3
  · rw [ne 10 (by omega)] at hp
    rw [ne (11 + 5 * (p : Int) + 0) (by omega), ne (11 + 5 * (p : Int) + 1) (by omega), ne (11 + 5 * (p : Int) + 2) (by omega), ne (11 + 5 * (p : Int) + 3) (by omega), ne (11 + 5 * (p : Int) + 4) (by omega)]
    exact w4 p hp
theorem ln_clock {B : Nat → Int} {N ru T : Nat} {c0 m0 vC vM : zHp} {s e : Nat} {t : Int} (h : xGd B N ru T c0 m0 vC vM s e t) (ht : t = 1) (hd : zDr ru vC vM) : xOut B N ru c0 m0 (xU T vM) s (fun K => zcl (fX6_readClock vC ru) fun v69 _ => K v69) (fX12_clockLine vM) := by
  have hse : s < e := by
    rcases h.2.2.1.2.2.1 with a | a
    · omega
    · exact a.2
  have hT := h.2.2.2.2.1.2.2
  have hru := h.2.2.2.2.2.2.2.2
  unfold fX12_clockLine
  rw [xCk_e]
  rcases gd_once h (i := 0) (by decide) with ⟨b, vC1, vM1, s1, e1, t1, a1, a2, a3, a4, a5, a6⟩ | ⟨b, F, vC1, vM1, a1, a2, a3, a4, a5⟩
  · rw [show ((2 ^ 0 : Nat) : Int) = 1 from rfl] at a1
    rw [show ((0 : Nat) : Int) = 0 from rfl] at a2
    rw [a2, zcl_e, if_neg n10, a1, zcl_e]
    rcases gd_num a3 (lo := 0) (hi := 27) (by decide) (by decide) with ⟨ht2, g1, g2, vC2, vM2, s2, e2, t2, q1, q2, q3, q4, q5, q6, q7⟩ | ⟨_, x, F, vC2, vM2, q1, q2, q3, q4, q5, q6, q7, _, _⟩
    · have h3 := gd_stM q3 5 (xVal B s1 e1)
      rw [q2, zcl_e, if_pos p10, zck_pos (by decide), q7, zb_e, q1, zcl_e]
      rcases gd_num h3 (lo := 0) (hi := 23) (by decide) (by decide) with ⟨ht3, k1, k2, vC3, vM3, s3, e3, t3, r1, r2, r3, r4, r5, r6, r7⟩ | ⟨_, x, F, vC3, vM3, r1, r2, r3, r4, r5, r6, r7, _, _⟩
      · have h5 := gd_stM r3 6 (xVal B s2 e2)
        rw [r2, zcl_e, if_pos p10, zck_pos (by decide), r7, zb_e, r1, zcl_e]
        generalize hD : xVal B s1 e1 = D at *
        generalize hH : xVal B s2 e2 = Hh at *
        obtain ⟨w1, m1, m2, m3, _⟩ := gd_tells h5 xw_forward
        obtain ⟨w2, n1, n2, n3, _⟩ := gd_tells h5 xw_back
        -- the last word is read
        have good : ∀ k : Int, (k = 0 ∨ k = 1) → ∃ vC' vM' s' e' t', fX6_readClock_J54 vC3 ru D Hh k 1 = some (vC', 0) ∧ fX12_clockLine_J117 (zst vM3 140 6 Hh) 7 k = some (vM', 1) ∧ xGd B N ru (T ||| 2 ^ 0) c0 m0 vC' vM' s' e' t' ∧ e3 ≤ s' ∧ zDr ru vC' vM' ∧ xU (T ||| 2 ^ 0) vM' = xU T vM + 1 := fun k hk => by
          obtain ⟨vC4, vM4, s4, e4, t4, u1, u2, u3, u4, u5, u6, u7⟩ := gd_adv (gd_stM h5 7 k)
          have es := c_set vC4 (ru + 1) (d := D) (h := Hh) (k := k) (by omega) (by omega)
          have hfin := gd_st (gd_st (gd_st (gd_st (gd_st u3 (a := ru + 1) (by omega) 0 D) (a := ru + 1) (by omega) 1 Hh) (a := ru + 1) (by omega) 2 k) (a := ru + 1) (by omega) 3 (D * 1440 + Hh * 60)) (a := ru + 1) (by omega) 4 (if k = 1 then -60 else if k = 0 then 60 else 0)
          have hM140 : ∀ j : Int, vM4 140 j = if j = 7 then k else if j = 6 then Hh else if j = 5 then D else vM 140 j := fun j => by
            rw [u6, zst_if, zst_if, r6, zst_if, q6, a6]
          refine ⟨_, vM4, s4, e4, t4, ?_, ?_, hfin, u4, ?_, ?_⟩
          · unfold fX6_readClock_J54 fX6_passIf fX6_passIf_J13
            rw [if_pos p10, if_neg (fun g => g r3.2.2.2.1.1), u1, zcl_e, zcl_e]
            rcases hk with rfl | rfl
            · rw [if_pos rfl, es, zcl_e]
            · rw [if_neg n10, es, zcl_e]
          · unfold fX12_clockLine_J117
            rw [zck_pos (by decide), zb_e, u2, zcl_e]
          · refine hd.clock (d := D) (h' := Hh) (k := k) (by omega) (by omega) hk (fun a a0 a1' => ?_) ?_ hM140
            · funext j
              rw [zst_na a1', zst_na a1', zst_na a1', zst_na a1', zst_na a1', u5 a (by omega), r5 a (by omega), q5 a (by omega), a5 a (by omega) (by omega)]
            · have e5 : vM4 140 5 = D := by rw [hM140, if_neg (by decide), if_neg (by decide), if_pos rfl]
              have e6 : vM4 140 6 = Hh := by rw [hM140, if_neg (by decide), if_pos rfl]
              have e7 : vM4 140 7 = k := by rw [hM140, if_pos rfl]
              unfold zCK zTurn zShift
              rw [e5, e6, e7]
              refine ⟨?_, ?_, ?_, ?_, ?_⟩
              · rw [zst_nj (by decide), zst_nj (by decide), zst_nj (by decide), zst_nj (by decide), zst_eq]
              · rw [zst_nj (by decide), zst_nj (by decide), zst_nj (by decide), zst_eq]
              · rw [zst_nj (by decide), zst_nj (by decide), zst_eq]
              · rw [zst_nj (by decide), zst_eq]
                omega
              · rw [zst_eq]
          · rw [xU_of u6, xU_st (by decide), xU_st (by decide), xU_of r6, xU_st (by decide), xU_of q6, xU_of a6, xU_once hT (by decide) b]
        have hlt : e1 ≤ s2 ∧ e2 ≤ s3 ∧ s1 ≤ e1 ∧ s2 ≤ e2 ∧ s3 ≤ e3 ∧ e ≤ s1 := ⟨q4, r4, a3.2.2.1.1, q3.2.2.1.1, r3.2.2.1.1, a4⟩
        unfold xCk fX6_readClock_J49
        rw [m1, zcl_e, m2, zcl_e]
        rcases m3 with rfl | rfl
        · rw [if_neg n00, if_neg n00, n1, zcl_e, n2, zcl_e]
          rcases n3 with rfl | rfl
          · right
            obtain ⟨z1, _, z2, z3, z4⟩ := gd_bad h5 (k := 1) (by decide) 0
            have hs3 : vC3 1 4 = (s3 : Int) := r3.1.2.2.1
            obtain ⟨y, y1, y2⟩ := bd_set z1 (d := D) (h' := Hh) (k := 0) (by omega) (by omega)
            rw [if_pos rfl, if_neg n00, z3, zcl_e, zck_pos (by decide)]
            refine ⟨_, y, _, fun K => ?_, rfl, y2, z2⟩
            dsimp only
            unfold fX6_readClock_J54 fX6_passIf fX6_passIf_J13
            rw [if_neg n00, hs3, z4, zcl_e, if_pos z1.nf, zcl_e, if_pos rfl, y1, zcl_e, zcl_e]
          · left
            obtain ⟨vC4, vM4, s4, e4, t4, u1, u2, u3, u4, u5, u6⟩ := good 0 (Or.inl rfl)
            unfold fX12_clockLine_J102
            rw [if_neg n10, if_pos p10, if_pos rfl]
            exact ⟨vC4, vM4, s4, e4, t4, _, fun K => by dsimp only; rw [u1, zcl_e], u2, u3, by omega, u5, u6⟩
        · left
          obtain ⟨vC4, vM4, s4, e4, t4, u1, u2, u3, u4, u5, u6⟩ := good 1 (Or.inr rfl)
          unfold fX12_clockLine_J102
          rw [if_pos p10, if_pos p10, if_neg n10]
          exact ⟨vC4, vM4, s4, e4, t4, _, fun K => by dsimp only; rw [u1, zcl_e], u2, u3, by omega, u5, u6⟩
      · right
        obtain ⟨y, y1, y2⟩ := bd_ck r3 (d := xVal B s1 e1) (h' := x) (by omega) ⟨r5, r6⟩
        rw [r2, zcl_e, if_neg n00, r1, zcl_e]
        exact ⟨F, y, vM3, fun K => by dsimp only; rw [y1, zcl_e], rfl, y2, r4⟩
    · right
      obtain ⟨z, r1, r2, r3⟩ := bd_num q3 0 23
      obtain ⟨y, y1, y2⟩ := bd_ck q3 (d := x) (h' := z) ⟨q5, q6⟩ ⟨r2, r3⟩
      rw [q2, zcl_e, if_neg n00, q1, zcl_e, r1, zcl_e]
      exact ⟨F, y, vM2, fun K => by dsimp only; rw [y1, zcl_e], rfl, y2, q4⟩
  · right
    rw [show ((2 ^ 0 : Nat) : Int) = 1 from rfl] at a1
    rw [show ((0 : Nat) : Int) = 0 from rfl] at a2
    obtain ⟨x, q1, q2, q3⟩ := bd_num a3 0 27
    obtain ⟨z, r1, r2, r3⟩ := bd_num a3 0 23
    obtain ⟨y, y1, y2⟩ := bd_ck a3 (d := x) (h' := z) ⟨q2, q3⟩ ⟨r2, r3⟩
    rw [a2, zcl_e, if_pos z00, a1, zcl_e, q1, zcl_e, r1, zcl_e]
    exact ⟨F, y, vM1, fun K => by dsimp only; rw [y1, zcl_e], rfl, y2, a4⟩
