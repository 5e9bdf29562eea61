/-! PURE: the class's best way whole. My own text. -/
def yRs (R : Int → Int) (al : Nat) (bs : List Nat) (i : Nat) (v : zHp) : Prop := (∀ c : Nat, yLs R al bs i ≤ (c : Int) → (c : Int) ≤ min (i : Int) (yTop R al bs.length) → v 135 (c : Int) = yW R al (bs.drop i) (c : Int)) ∧ ∀ j : Nat, i ≤ j → j < bs.length → ∀ c : Nat, yLs R al bs j ≤ (c : Int) → (c : Int) ≤ min (j : Int) (yTop R al bs.length) → yMk v j c = ((yMv R al (bs.getD j 0) (bs.drop (j + 1)) (c : Int) : Nat) : Int)
theorem lev_L {R : Int → Int} {al ru : Nat} {bs : List Nat} (hR : zWR R) (hn : bs.length ≤ 676) : ∀ (i fu : Nat) (v : zHp), i ≤ bs.length → i < fu → yTw R al (yTop R al bs.length) v → yTq R al bs bs.length v → yRs R al bs i v → ∃ v', fX0_payBest_L91 fu v ru (al : Int) ((i : Int) - 1) = some (v', 0) ∧ yRs R al bs 0 v' ∧ ∀ a, a ≠ 135 → a ≠ 136 → v' a = v a
  | 0, fu, v, h1, h2, h3, h4, h5 => by
    obtain ⟨k, rfl⟩ : ∃ k, fu = k + 1 := ⟨fu - 1, by omega⟩
    refine ⟨v, ?_, h5, fun a _ _ => rfl⟩
    rw [fX0_payBest_L91.eq_2, if_pos (by omega)]
  | i + 1, fu, v, h1, h2, h3, h4, h5 => by
    obtain ⟨k, rfl⟩ : ∃ k, fu = k + 1 := ⟨fu - 1, by omega⟩
    have hi : i < bs.length := by omega
    have ht := yTop_b (R := R) (al := al) (N := bs.length)
    have hl := yLs_b (R := R) (al := al) (bs := bs) i
    obtain ⟨q1, q2, q3⟩ := h4 i hi
    have el : (((yLs R al bs i).toNat : Nat) : Int) = yLs R al bs i := by omega
    obtain ⟨u, g1, g2, g3, g4, g5⟩ := mark_L (al := al) (bs := bs) hR hn hi rfl rfl (min (i : Int) (yTop R al bs.length) + 1 - yLs R al bs i).toNat zFU (yLs R al bs i).toNat v (by omega) (zFU_lt (by omega)) (by omega) h3 q1 q2 (fun x hx1 hx2 hx3 => h5.1 x hx2 (by omega))
    rw [el] at g1
    have e : fX0_markQuarter v (i : Int) = some (u, 0) := by
      unfold fX0_markQuarter
      rw [zck_pos (by omega), h3.1, q3, g1]
      rfl
    rw [show ((i + 1 : Nat) : Int) - 1 = (i : Int) by omega, fX0_payBest_L91.eq_2, if_neg (by omega), e, zcl_e, zn_pos (by omega), show (i : Int) + -1 = (i : Int) - 1 by omega]
    obtain ⟨v', w1, w2, w3⟩ := lev_L (ru := ru) hR hn i k u (by omega) (by omega) (by
      unfold yTw
      rw [g5 125 (by decide) (by decide), g5 132 (by decide) (by decide), g5 133 (by decide) (by decide)]
      exact h3) (by
      unfold yTq
      rw [g5 130 (by decide) (by decide), g5 131 (by decide) (by decide), g5 134 (by decide) (by decide)]
      exact h4) ⟨fun c c1 c2 => by
        rw [(g2 c (by omega) c2).1, dp_c (d := 0) hi], fun j j1 j2 c c1 c2 => by
        by_cases f : j = i
        · rw [f] at c1 c2 ⊢
          exact (g2 c (by omega) c2).2
        · rw [g4 j c (by omega) (by omega) f]
          exact h5.2 j (by omega) j2 c c1 c2⟩
    exact ⟨v', w1, w2, fun a a1 a2 => by rw [w3 a a1 a2, g5 a a1 a2]⟩
/-! the first of the best -/
theorem fb_body {R : Int → Int} (hR : zWR R) {ru : Nat} {v : zHp} (h3 : zRC ru v R) {al b : Nat} (hb : b < 2 ^ 31) {t : List Nat} {c : Int} {i : Nat} (hi : i < 676) (hv : v 128 (i : Int) = ((b ||| yWm R al c : Nat) : Int)) (k p : Nat) (hp : p < (R 10).toNat) : fX0_firstBest_L50 (k + 1) v (i : Int) ((yMv R al b t c : Nat) : Int) ru (yAc R al b c) (yAo R al b c) (p : Int) = if ((b ||| yWm R al c).testBit p && decide (R (11 + 5 * (p : Int) + 1) + (if R (11 + 5 * (p : Int) + 2) = 1 then yW R al t (c + 1) else yW R al t c) = yW R al (b :: t) c)) = true then some (.inl (v, (p : Int))) else fX0_firstBest_L50 k v (i : Int) ((yMv R al b t c : Nat) : Int) ru (yAc R al b c) (yAo R al b c) ((p + 1 : Nat) : Int) := by
  have h8 := hR.2.2.1
  have hyb := yH_b hR hp
  change 1 ≤ R (11 + 5 * (p : Int) + 1) ∧ R (11 + 5 * (p : Int) + 1) ≤ 300 ∧ _ at hyb
  obtain ⟨e0, e1, e2, e3, e4⟩ := c_pr h3 (p := p) (by omega)
  have hn : v ru 2 = R 10 := h3.2.2.1.1
  have eW : yW R al (b :: t) c = max (yW R al t (c + 1) + yAc R al b c) (if yAo R al b c = -1 then -1 else yW R al t c + yAo R al b c) := rfl
  have b1 := yW_b hR (al := al) t (c + 1)
  have b2 := yW_b hR (al := al) t c
  have b3 := yAc_b hR (al := al) (b := b) (c := c)
  have b4 := yAo_b hR (al := al) (b := b) (c := c)
  have hm : (b ||| yWm R al c) < 2 ^ 31 := Nat.or_lt_two_pow hb (yWm_lt hR)
  have hge := yA_ge (R := R) (al := al) (b := b) (c := c) hp
  have ep : (p : Int) + 1 = ((p + 1 : Nat) : Int) := by omega
  -- behind the question which sort wins
  have e93 : ∀ (x8 w : Int), fX0_firstBest_J93 (fX0_firstBest_L50 k) v (i : Int) ((yMv R al b t c : Nat) : Int) ru (yAc R al b c) (yAo R al b c) (p : Int) x8 w = if w = 0 then fX0_firstBest_L50 k v (i : Int) ((yMv R al b t c : Nat) : Int) ru (yAc R al b c) (yAo R al b c) ((p + 1 : Nat) : Int) else if (b ||| yWm R al c).testBit p = true ∧ R (11 + 5 * (p : Int) + 1) = (if x8 = 0 then yAo R al b c else yAc R al b c) then some (.inl (v, (p : Int))) else fX0_firstBest_L50 k v (i : Int) ((yMv R al b t c : Nat) : Int) ru (yAc R al b c) (yAo R al b c) ((p + 1 : Nat) : Int) := fun x8 w => by
    unfold fX0_firstBest_J93 fX0_firstBest_J140
    rw [zn_pos (by omega), ep, zck_pos (by omega), hv, zbit_n (by omega) hm, zck_pos (by omega), Int.toNat_natCast, zb_e, e1]
    by_cases w0 : w = 0
    · rw [if_pos w0, if_pos w0]
    · rw [if_neg w0, if_neg w0]
      cases a : (b ||| yWm R al c).testBit p with
      | false => rw [if_pos (by decide), if_neg (fun h => absurd h.1 (by decide))]
      | true =>
        rw [if_neg (by decide)]
        by_cases x0 : x8 = 0
        · rw [if_pos x0, if_pos x0]
          by_cases d : R (11 + 5 * (p : Int) + 1) = yAo R al b c
          · rw [if_neg (by omega), if_pos ⟨rfl, d⟩]
          · rw [if_pos d, if_neg (fun h => d h.2)]
        · rw [if_neg x0, if_neg x0]
          by_cases d : R (11 + 5 * (p : Int) + 1) = yAc R al b c
          · rw [if_neg (by omega), if_pos ⟨rfl, d⟩]
          · rw [if_pos d, if_neg (fun h => d h.2)]
  have hmv : (yMv R al b t c = 2 ∧ yW R al t (c + 1) + yAc R al b c < (if yAo R al b c = -1 then -1 else yW R al t c + yAo R al b c)) ∨ (yMv R al b t c = 1 ∧ (if yAo R al b c = -1 then -1 else yW R al t c + yAo R al b c) < yW R al t (c + 1) + yAc R al b c) ∨ (yMv R al b t c = 3 ∧ (if yAo R al b c = -1 then -1 else yW R al t c + yAo R al b c) = yW R al t (c + 1) + yAc R al b c) := by
    have eV : yMv R al b t c = if yW R al t (c + 1) + yAc R al b c < (if yAo R al b c = -1 then -1 else yW R al t c + yAo R al b c) then 2 else if (if yAo R al b c = -1 then -1 else yW R al t c + yAo R al b c) < yW R al t (c + 1) + yAc R al b c then 1 else 3 := rfl
    by_cases d : yW R al t (c + 1) + yAc R al b c < (if yAo R al b c = -1 then -1 else yW R al t c + yAo R al b c)
    · rw [if_pos d] at eV
      exact Or.inl ⟨eV, d⟩
    · rw [if_neg d] at eV
      by_cases f : (if yAo R al b c = -1 then -1 else yW R al t c + yAo R al b c) < yW R al t (c + 1) + yAc R al b c
      · rw [if_pos f] at eV
        exact Or.inr (Or.inl ⟨eV, f⟩)
      · rw [if_neg f] at eV
        exact Or.inr (Or.inr ⟨eV, by omega⟩)
  rw [fX0_firstBest_L50.eq_2, hn, if_neg (by omega), zck_pos (by omega), Int.toNat_natCast, zb_e, e2]
  unfold fX0_firstBest_J84
  rw [e93, e93]
  have fin : ∀ (Q : Prop) [Decidable Q] (B : Bool) (X Y : Option ((zHp × Int) ⊕ (zHp × Int))), (Q ↔ B = true) → (if Q then X else Y) = if B = true then X else Y := fun Q _ B X Y h => by
    by_cases q : Q
    · rw [if_pos q, if_pos (h.mp q)]
    · rw [if_neg q, if_neg (fun z => q (h.mpr z))]
  rcases hyb.2.2.1 with hC | hC
  · -- it doesn't count
    rw [hC, if_pos rfl, if_pos rfl, if_neg (by decide : ¬ (0 : Int) = 1)]
    rcases hmv with ⟨m1, m2⟩ | ⟨m1, m2⟩ | ⟨m1, m2⟩
    · rw [m1, show zand ((2 : Nat) : Int) 2 = 2 by decide, if_neg (by decide), if_neg (by decide), if_pos rfl]
      apply fin
      rw [Bool.and_eq_true, decide_eq_true_iff]
      refine and_congr_right fun hbit => ?_
      have := (hge hbit).2 hC
      rw [if_neg (by omega)] at eW m2
      omega
    · rw [m1, show zand ((1 : Nat) : Int) 2 = 0 by decide, if_pos rfl]
      rw [if_neg]
      rw [Bool.and_eq_true, decide_eq_true_iff]
      rintro ⟨hbit, h⟩
      have := (hge hbit).2 hC
      rw [if_neg (by omega)] at eW m2
      omega
    · rw [m1, show zand ((3 : Nat) : Int) 2 = 2 by decide, if_neg (by decide), if_neg (by decide), if_pos rfl]
      apply fin
      rw [Bool.and_eq_true, decide_eq_true_iff]
      refine and_congr_right fun hbit => ?_
      have := (hge hbit).2 hC
      rw [if_neg (by omega)] at eW m2
      omega
  · rw [hC, if_neg (by decide), if_neg (by decide : ¬ (1 : Int) = 0), if_pos rfl]
    rcases hmv with ⟨m1, m2⟩ | ⟨m1, m2⟩ | ⟨m1, m2⟩
    · rw [m1, show zand ((2 : Nat) : Int) 1 = 0 by decide, if_pos rfl]
      rw [if_neg]
      rw [Bool.and_eq_true, decide_eq_true_iff]
      rintro ⟨hbit, h⟩
      have := (hge hbit).1 hC
      generalize (if yAo R al b c = -1 then -1 else yW R al t c + yAo R al b c) = B at eW m2
      omega
    · rw [m1, show zand ((1 : Nat) : Int) 1 = 1 by decide, if_neg (by decide), if_neg (by decide : ¬ (1 : Int) = 0), if_pos (rfl : (1 : Int) = 1)]
      apply fin
      rw [Bool.and_eq_true, decide_eq_true_iff]
      refine and_congr_right fun hbit => ?_
      have := (hge hbit).1 hC
      generalize (if yAo R al b c = -1 then -1 else yW R al t c + yAo R al b c) = B at eW m2
      omega
    · rw [m1, show zand ((3 : Nat) : Int) 1 = 1 by decide, if_neg (by decide), if_neg (by decide : ¬ (1 : Int) = 0), if_pos (rfl : (1 : Int) = 1)]
      apply fin
      rw [Bool.and_eq_true, decide_eq_true_iff]
      refine and_congr_right fun hbit => ?_
      have := (hge hbit).1 hC
      generalize (if yAo R al b c = -1 then -1 else yW R al t c + yAo R al b c) = B at eW m2
      omega
theorem fb_L {R : Int → Int} (hR : zWR R) {ru : Nat} {v : zHp} (h3 : zRC ru v R) {al b : Nat} (hb : b < 2 ^ 31) {t : List Nat} {c : Int} {i : Nat} (hi : i < 676) (hv : v 128 (i : Int) = ((b ||| yWm R al c : Nat) : Int)) {q : Nat} (hq : q < (R 10).toNat) (hq1 : ((b ||| yWm R al c).testBit q && decide (R (11 + 5 * (q : Int) + 1) + (if R (11 + 5 * (q : Int) + 2) = 1 then yW R al t (c + 1) else yW R al t c) = yW R al (b :: t) c)) = true) (hq3 : ∀ p : Nat, p < q → ((b ||| yWm R al c).testBit p && decide (R (11 + 5 * (p : Int) + 1) + (if R (11 + 5 * (p : Int) + 2) = 1 then yW R al t (c + 1) else yW R al t c) = yW R al (b :: t) c)) = false) : ∀ (m fu p : Nat), p + m = q → m < fu → zlf (fX0_firstBest_L50 fu v (i : Int) ((yMv R al b t c : Nat) : Int) ru (yAc R al b c) (yAo R al b c) (p : Int)) (fun v13 _ => some (v13, (-1))) = some (v, (q : Int))
  | 0, fu, p, h1, h2 => by
    obtain ⟨k, rfl⟩ : ∃ k, fu = k + 1 := ⟨fu - 1, by omega⟩
    have e : p = q := by omega
    rw [e, fb_body hR h3 hb hi hv k q hq, hq1, if_pos rfl, zlf_i]
  | m + 1, fu, p, h1, h2 => by
    obtain ⟨k, rfl⟩ : ∃ k, fu = k + 1 := ⟨fu - 1, by omega⟩
    rw [fb_body hR h3 hb hi hv k p (by omega), hq3 p (by omega), if_neg (by decide : ¬ (false = true))]
    exact fb_L hR h3 hb hi hv hq hq1 hq3 m k (p + 1) (by omega) (by omega)
theorem c_firstBest {R : Int → Int} (hR : zWR R) {ru : Nat} {v : zHp} (h3 : zRC ru v R) {al b : Nat} (hb : b < 2 ^ 31) {t : List Nat} {c i : Nat} (hi : i < 676) (hc : c < 676) (hv : v 128 (i : Int) = ((b ||| yWm R al (c : Int) : Nat) : Int)) (h130 : v 130 (i : Int) = yOc R b) (h131 : v 131 (i : Int) = yOp R b) (h132 : v 132 (c : Int) = yOc R (yWm R al (c : Int))) (h133 : v 133 (c : Int) = yOp R (yWm R al (c : Int))) : fX0_firstBest v (i : Int) (c : Int) ((yMv R al b t (c : Int) : Nat) : Int) ru = some (v, yHd R al b t (c : Int)) := by
  have h8 := hR.2.2.1
  have eA : max (v 130 (i : Int)) (v 132 (c : Int)) = yAc R al b (c : Int) := by rw [h130, h132]; rfl
  have eO : max (v 131 (i : Int)) (v 133 (c : Int)) = yAo R al b (c : Int) := by rw [h131, h133]; rfl
  have eW : yW R al (b :: t) (c : Int) = max (yW R al t ((c : Int) + 1) + yAc R al b (c : Int)) (if yAo R al b (c : Int) = -1 then -1 else yW R al t (c : Int) + yAo R al b (c : Int)) := rfl
  have eV : yMv R al b t (c : Int) = if yW R al t ((c : Int) + 1) + yAc R al b (c : Int) < (if yAo R al b (c : Int) = -1 then -1 else yW R al t (c : Int) + yAo R al b (c : Int)) then 2 else if (if yAo R al b (c : Int) = -1 then -1 else yW R al t (c : Int) + yAo R al b (c : Int)) < yW R al t ((c : Int) + 1) + yAc R al b (c : Int) then 1 else 3 := rfl
  have b3 := yAc_b hR (al := al) (b := b) (c := (c : Int))
  have jump : yW R al t ((c : Int) + 1) ≠ yW R al (b :: t) (c : Int) → fX0_firstBest_J47 v (i : Int) ((yMv R al b t (c : Int) : Nat) : Int) ru (yAc R al b (c : Int)) (yAo R al b (c : Int)) = some (v, yHd R al b t (c : Int)) := fun hne => by
    rcases yHd_ok hR (al := al) (b := b) (t := t) (c := (c : Int)) with ⟨q1, q2⟩ | ⟨p, q1, q2, q3, q4, q5⟩
    · exact absurd q2 hne
    · have hfs : yFs (fun p => (b ||| yWm R al (c : Int)).testBit p && decide (R (11 + 5 * (p : Int) + 1) + (if R (11 + 5 * (p : Int) + 2) = 1 then yW R al t ((c : Int) + 1) else yW R al t (c : Int)) = yW R al (b :: t) (c : Int))) (R 10).toNat = (p : Int) := by
        rw [← q1]
        unfold yHd yPk
        rw [if_neg q3]
      have hfirst : ∀ p' : Nat, p' < p → ((b ||| yWm R al (c : Int)).testBit p' && decide (R (11 + 5 * (p' : Int) + 1) + (if R (11 + 5 * (p' : Int) + 2) = 1 then yW R al t ((c : Int) + 1) else yW R al t (c : Int)) = yW R al (b :: t) (c : Int))) = false := by
        rcases yFs_b (P := fun p => (b ||| yWm R al (c : Int)).testBit p && decide (R (11 + 5 * (p : Int) + 1) + (if R (11 + 5 * (p : Int) + 2) = 1 then yW R al t ((c : Int) + 1) else yW R al t (c : Int)) = yW R al (b :: t) (c : Int))) (R 10).toNat with ⟨f1, _⟩ | ⟨q, f1, _, _, f4⟩
        · omega
        · rw [hfs] at f1
          intro p' hp'
          exact f4 p' (by omega)
      rw [q1]
      exact fb_L hR h3 hb hi hv q2 (by rw [q4, decide_eq_true q5]; rfl) hfirst p zFU 0 (by omega) (zFU_lt (by omega))
  unfold fX0_firstBest
  rw [zck_pos (by omega), zck_pos (by omega), zck_pos (by omega), zck_pos (by omega), eA, eO]
  by_cases d : yW R al t ((c : Int) + 1) + yAc R al b (c : Int) < (if yAo R al b (c : Int) = -1 then -1 else yW R al t (c : Int) + yAo R al b (c : Int))
  · rw [if_pos d] at eV
    rw [show zand ((yMv R al b t (c : Int) : Nat) : Int) 1 = 0 by rw [eV]; decide, if_pos rfl]
    generalize (if yAo R al b (c : Int) = -1 then -1 else yW R al t (c : Int) + yAo R al b (c : Int)) = B at eW d
    exact jump (by omega)
  · rw [if_neg d] at eV
    have e1 : zand ((yMv R al b t (c : Int) : Nat) : Int) 1 = 1 := by
      rw [eV]
      generalize (if yAo R al b (c : Int) = -1 then -1 else yW R al t (c : Int) + yAo R al b (c : Int)) = B
      split <;> decide
    rw [e1, if_neg (by decide)]
    by_cases f : yAc R al b (c : Int) = 0
    · rw [if_neg (by omega)]
      generalize (if yAo R al b (c : Int) = -1 then -1 else yW R al t (c : Int) + yAo R al b (c : Int)) = B at eW d
      have : yHd R al b t (c : Int) = -1 := by
        unfold yHd yPk
        rw [if_pos (by omega)]
      rw [this]
    · rw [if_pos f]
      generalize (if yAo R al b (c : Int) = -1 then -1 else yW R al t (c : Int) + yAo R al b (c : Int)) = B at eW d
      exact jump (by omega)
/-! it follows the marks -/
def yMs (R : Int → Int) (al : Nat) : List Nat → Int → List Nat
  | [], _ => []
  | b :: t, c => (b ||| yWm R al c) :: yMs R al t (c + yCn R (yHd R al b t c))
theorem yMs_len {R : Int → Int} {al : Nat} : ∀ (l : List Nat) (c : Int), (yMs R al l c).length = l.length
  | [], _ => rfl
  | b :: t, c => by
    show (yMs R al t _).length + 1 = t.length + 1
    rw [yMs_len t]
theorem yHd_top {R : Int → Int} {al b : Nat} {t : List Nat} {N c c' : Int} (h1 : yTop R al N ≤ c) (h2 : c + (t.length : Int) < N) (h3 : yTop R al N ≤ c') (h4 : c' + (t.length : Int) < N) : yHd R al b t c = yHd R al b t c' ∧ yWm R al c = yWm R al c' := by
  have e := yWm_top (R := R) (al := al) (N := N) (c := c) (c' := c') ⟨h1, by omega⟩ ⟨h3, by omega⟩
  refine ⟨?_, e⟩
  unfold yHd
  rw [yW_top (N := N) t (c + 1) (c' + 1) (by omega) (by omega) (by omega) (by omega), yW_top (N := N) t c c' h1 (by omega) h3 (by omega), yW_top (N := N) (b :: t) c c' h1 (by rw [List.length_cons]; omega) h3 (by rw [List.length_cons]; omega), e]
theorem fol_L {R : Int → Int} {al ru : Nat} {bs : List Nat} (hR : zWR R) (hb : yOk R bs) (hn : bs.length ≤ 676) : ∀ (l : List Nat) (fu i c : Nat) (won : Int) (v : zHp), bs.drop i = l → i + l.length = bs.length → c ≤ i → l.length < fu → 0 ≤ won → won ≤ 300 * (i : Int) → yLs R al bs i ≤ min (c : Int) (yTop R al bs.length) → zRC ru v R → v 126 3 = (bs.length : Int) → (∀ j : Nat, i ≤ j → j < bs.length → v 128 (j : Int) = ((bs.getD j 0 : Nat) : Int)) → yTw R al (yTop R al bs.length) v → yTq R al bs bs.length v → yRs R al bs 0 v → ∃ v', fX0_followMarks_L8 fu v ru (al : Int) won (min (c : Int) (yTop R al bs.length)) (i : Int) = some (v', won + yW R al l (c : Int)) ∧ (∀ x : Nat, x < l.length → v' 129 ((i : Int) + (x : Int)) = (yB R al l (c : Int)).getD x 0 ∧ v' 128 ((i : Int) + (x : Int)) = (((yMs R al l (c : Int)).getD x 0 : Nat) : Int)) ∧ (∀ j : Int, j < (i : Int) → v' 129 j = v 129 j ∧ v' 128 j = v 128 j) ∧ ∀ a, a ≠ 128 → a ≠ 129 → v' a = v a
  | [], fu, i, c, won, v, h1, h2, h3, h4, w1, w2, h5, h6, h7, h8, h9, h10, h11 => by
    obtain ⟨k, rfl⟩ : ∃ k, fu = k + 1 := ⟨fu - 1, by omega⟩
    have h2' : i = bs.length := h2
    refine ⟨v, ?_, fun x hx => absurd hx (Nat.not_lt_zero _), fun j _ => ⟨rfl, rfl⟩, fun a _ _ => rfl⟩
    rw [fX0_followMarks_L8.eq_2, if_pos (by omega)]
    show some (v, won) = some (v, won + 0)
    rw [Int.add_zero]
  | b :: t, fu, i, c, won, v, h1, h2, h3, h4, w1, w2, h5, h6, h7, h8, h9, h10, h11 => by
    obtain ⟨k, rfl⟩ : ∃ k, fu = k + 1 := ⟨fu - 1, by omega⟩
    rw [List.length_cons] at h2 h4
    have hi : i < bs.length := by omega
    have ht := yTop_b (R := R) (al := al) (N := bs.length)
    have hl := yLs_b (R := R) (al := al) (bs := bs) i
    have hlu := yLs_up (R := R) (al := al) (bs := bs) i
    have hl1 := yLs_b (R := R) (al := al) (bs := bs) (i + 1)
    have hr0 := h6.1
    have h80 := hR.2.2.1
    have hd := dp_c (d := 0) hi
    rw [h1] at hd
    obtain ⟨hd1, hd2⟩ := List.cons.inj hd
    obtain ⟨hb1, hb2⟩ := hb i hi
    rw [← hd1] at hb1 hb2
    have hv := h8 i (Nat.le_refl _) hi
    rw [← hd1] at hv
    obtain ⟨q1, q2, q3⟩ := h10 i hi
    rw [← hd1] at q1 q2
    -- the number that the class has
    obtain ⟨cc, hcc⟩ : ∃ cc : Nat, (cc : Int) = min (c : Int) (yTop R al bs.length) := ⟨(min (c : Int) (yTop R al bs.length)).toNat, by omega⟩
    have hH : yHd R al b t (cc : Int) = yHd R al b t (c : Int) ∧ yWm R al (cc : Int) = yWm R al (c : Int) := by
      by_cases d : (c : Int) ≤ yTop R al bs.length
      · rw [show (cc : Int) = (c : Int) by omega]
        exact ⟨rfl, rfl⟩
      · exact yHd_top (N := bs.length) (by omega) (by omega) (by omega) (by omega)
    obtain ⟨x1, x2⟩ := h9.2 cc (by omega)
    have hmk := h11.2 i (Nat.zero_le _) hi cc (by omega) (by omega)
    rw [← hd1, ← hd2] at hmk
    have hm31 : (b ||| yWm R al (cc : Int)) < 2 ^ 31 := Nat.or_lt_two_pow hb1 (yWm_lt hR)
    have eA : zor (v 128 (i : Int)) (zand ((zmk (zWb R (cc : Int)) (R 10).toNat : Nat) : Int) (al : Int)) = ((b ||| yWm R al (cc : Int) : Nat) : Int) := by
      rw [hv, zand_n (zmk_31 (by omega))]
      exact zor_n hb1 (yWm_lt hR)
    rw [← hcc, fX0_followMarks_L8.eq_2, if_neg (by omega), zck_pos (by omega), c_weekBits hR h6, zcl_e, zck_pos (by omega), zb_e, eA, c_markAt (by omega) (by omega), zcl_e]
    have n1 : ∀ a, a ≠ 128 → zst v 128 (i : Int) ((b ||| yWm R al (cc : Int) : Nat) : Int) a = v a := fun a ha => by funext j; exact zst_na ha
    have emk : yMk (zst v 128 (i : Int) ((b ||| yWm R al (cc : Int) : Nat) : Int)) i cc = ((yMv R al b t (cc : Int) : Nat) : Int) := by
      unfold yMk at hmk ⊢
      rw [n1 136 (by decide)]
      exact hmk
    rw [emk, c_firstBest (b := b) (t := t) hR (h6.of hR fun a a1 a2 => n1 a (by omega)) hb1 (by omega) (by omega) zst_eq (by rw [n1 130 (by decide)]; exact q1) (by rw [n1 131 (by decide)]; exact q2) (by rw [n1 132 (by decide)]; exact x1) (by rw [n1 133 (by decide)]; exact x2), zcl_e, zck_pos (by omega), zb_e, zck_pos (by omega), zst_eq, hH.1]
    have hhb := yHd_b hR (al := al) (b := b) (t := t) (c := (c : Int))
    have hcn := yCn_b hR hhb
    have hhn := yHn_b hR hhb
    have eB : yB R al (b :: t) (c : Int) = yHd R al b t (c : Int) :: yB R al t ((c : Int) + yCn R (yHd R al b t (c : Int))) := rfl
    have eM : yMs R al (b :: t) (c : Int) = (b ||| yWm R al (c : Int)) :: yMs R al t ((c : Int) + yCn R (yHd R al b t (c : Int))) := rfl
    have eW := yHd_v hR (al := al) (b := b) (t := t) (c := (c : Int))
    -- a pick that doesn't count keeps ahead of what is needed
    have hneed : yCn R (yHd R al b t (c : Int)) = 0 → yLs R al bs (i + 1) ≤ (cc : Int) := fun h0 => by
      rcases hlu with h | ⟨h, g1, g2, g3⟩
      · omega
      · by_cases f : yLs R al bs i = (cc : Int)
        · exfalso
          rcases yHd_ok hR (al := al) (b := b) (t := t) (c := (c : Int)) with ⟨p1, _⟩ | ⟨p, p1, p2, _, p3, _⟩
          · rw [p1] at h0
            have h1 : yCn R (-1) = 1 := rfl
            omega
          · rw [p1] at h0
            have eC : yCn R (p : Int) = R (11 + 5 * (p : Int) + 2) := if_neg (by omega)
            rw [eC] at h0
            have := (yA_ge (R := R) (al := al) (b := b) (c := (c : Int)) p2 p3).2 h0
            have p5 := (yH_b hR p2).1
            change 1 ≤ R (11 + 5 * (p : Int) + 1) at p5
            have : yAo R al b (c : Int) = -1 := by
              show max (yOp R b) (yOp R (yWm R al (c : Int))) = -1
              rw [← hH.2, ← f, g3, hd1, g2]
              rfl
            omega
        · omega
    rw [← eW, eB, eM, hH.2]
    generalize yHd R al b t (c : Int) = its at hhb hcn hhn hneed ⊢
    have na : ∀ a, a ≠ 128 → a ≠ 129 → zst (zst v 128 (i : Int) ((b ||| yWm R al (c : Int) : Nat) : Int)) 129 (i : Int) its a = v a := fun a a1 a2 => by
      funext j
      rw [zst_na a2, zst_na a1]
    have hru : zRC ru (zst (zst v 128 (i : Int) ((b ||| yWm R al (c : Int) : Nat) : Int)) 129 (i : Int) its) R := h6.of hR fun a a1 a2 => na a (by omega) (by omega)
    have r129 : ∀ j, zst (zst v 128 (i : Int) ((b ||| yWm R al (c : Int) : Nat) : Int)) 129 (i : Int) its 129 j = if j = (i : Int) then its else v 129 j := fun j => by rw [zst_if, zst_na (by decide)]
    have r128 : ∀ j, zst (zst v 128 (i : Int) ((b ||| yWm R al (c : Int) : Nat) : Int)) 129 (i : Int) its 128 j = if j = (i : Int) then ((b ||| yWm R al (c : Int) : Nat) : Int) else v 128 j := fun j => by rw [zst_na (by decide), zst_if]
    rw [c_hundredthsUnder hR hru hhb, zcl_e, zn_pos (by omega), zck_pos (by omega), r129, if_pos rfl, c_countsUnder hR hru hhb, zcl_e]
    generalize zst (zst v 128 (i : Int) ((b ||| yWm R al (c : Int) : Nat) : Int)) 129 (i : Int) its = u at na hru r129 r128 ⊢
    rw [na 125 (by decide) (by decide), h9.1]
    have go : ∀ c' : Nat, (c' : Int) = (c : Int) + yCn R its → c' ≤ i + 1 → ∃ v', fX0_followMarks_L8 k u ru (al : Int) (won + yHn R its) (min (c' : Int) (yTop R al bs.length)) ((i + 1 : Nat) : Int) = some (v', won + (yHn R its + yW R al t ((c : Int) + yCn R its))) ∧ (∀ x : Nat, x < (b :: t).length → v' 129 ((i : Int) + (x : Int)) = (its :: yB R al t ((c : Int) + yCn R its)).getD x 0 ∧ v' 128 ((i : Int) + (x : Int)) = ((((b ||| yWm R al (c : Int)) :: yMs R al t ((c : Int) + yCn R its)).getD x 0 : Nat) : Int)) ∧ (∀ j : Int, j < (i : Int) → v' 129 j = v 129 j ∧ v' 128 j = v 128 j) ∧ ∀ a, a ≠ 128 → a ≠ 129 → v' a = v a := fun c' e1 e2 => by
      have hL : yLs R al bs (i + 1) ≤ min (c' : Int) (yTop R al bs.length) := by
        rcases hcn with h0 | h0
        · have := hneed h0
          omega
        · rcases hlu with h | ⟨h, g1, _, _⟩ <;> omega
      obtain ⟨v', g1, g2, g3, g4⟩ := fol_L (ru := ru) hR hb hn t k (i + 1) c' (won + yHn R its) u hd2.symm (by omega) e2 (by omega) (by omega) (by omega) hL hru (by rw [na 126 (by decide) (by decide)]; exact h7) (fun j j1 j2 => by
        rw [r128, if_neg (by omega)]
        exact h8 j (by omega) j2) (by
        unfold yTw
        rw [na 125 (by decide) (by decide), na 132 (by decide) (by decide), na 133 (by decide) (by decide)]
        exact h9) (by
        unfold yTq
        rw [na 130 (by decide) (by decide), na 131 (by decide) (by decide), na 134 (by decide) (by decide)]
        exact h10) (by
        unfold yRs yMk
        rw [na 135 (by decide) (by decide), na 136 (by decide) (by decide)]
        exact h11)
      rw [← e1, ← Int.add_assoc]
      refine ⟨v', g1, fun x hx => ?_, fun j hj => ?_, fun a a1 a2 => by rw [g4 a a1 a2, na a a1 a2]⟩
      · rcases x with _ | x
        · rw [show (i : Int) + ((0 : Nat) : Int) = (i : Int) by omega, (g3 (i : Int) (by omega)).1, (g3 (i : Int) (by omega)).2, r129, r128, if_pos rfl, if_pos rfl]
          exact ⟨rfl, rfl⟩
        · rw [show (i : Int) + ((x + 1 : Nat) : Int) = ((i + 1 : Nat) : Int) + (x : Int) by omega]
          exact g2 x (Nat.lt_of_succ_lt_succ hx)
      · rw [(g3 j (by omega)).1, (g3 j (by omega)).2, r129, r128, if_neg (by omega), if_neg (by omega)]
        exact ⟨rfl, rfl⟩
    simp only [zn_pos (show -2147483648 ≤ (i : Int) + 1 ∧ (i : Int) + 1 ≤ 2147483647 by omega), zn_pos (show -2147483648 ≤ (cc : Int) + 1 ∧ (cc : Int) + 1 ≤ 2147483647 by omega)]
    rw [show (i : Int) + 1 = ((i + 1 : Nat) : Int) by omega]
    rcases hcn with h0 | h0
    · rw [if_pos h0]
      have := go c (by rw [h0, Int.add_zero]) (by omega)
      rw [hcc]
      exact this
    · rw [if_neg (by omega)]
      have := go (c + 1) (by rw [h0]; rfl) (by omega)
      by_cases d : yTop R al bs.length ≤ (cc : Int)
      · rw [if_pos d, show (cc : Int) = min ((c + 1 : Nat) : Int) (yTop R al bs.length) by omega]
        exact this
      · rw [if_neg d, show (cc : Int) + 1 = min ((c + 1 : Nat) : Int) (yTop R al bs.length) by omega]
        exact this
theorem c_payBest {R : Int → Int} {al ru : Nat} {bs : List Nat} (hR : zWR R) (hal : al < 2 ^ 31) (hb : yOk R bs) (hn : bs.length ≤ 676) {v : zHp} (h6 : zRC ru v R) (h7 : v 126 3 = (bs.length : Int)) (h8 : ∀ j : Nat, j < bs.length → v 128 (j : Int) = ((bs.getD j 0 : Nat) : Int)) : ∃ v', fX0_payBest v ru (al : Int) = some (v', yW R al bs 0) ∧ (∀ x : Nat, x < bs.length → v' 129 (x : Int) = (yB R al bs 0).getD x 0 ∧ v' 128 (x : Int) = (((yMs R al bs 0).getD x 0 : Nat) : Int)) ∧ ∀ a, (a < 125 ∨ 136 < a ∨ a = 126 ∨ a = 127) → v' a = v a := by
  have ht := yTop_b (R := R) (al := al) (N := bs.length)
  have hr0 := h6.1
  have n0 : ∀ a, a ≠ 125 → zst v 125 8 (yTop R al bs.length) a = v a := fun a ha => by funext j; exact zst_na ha
  obtain ⟨u1, a1, a2, a3, a4⟩ := tw_L (al := al) (ru := ru) (top := yTop R al bs.length) hR (by omega) (yTop R al bs.length + 1).toNat zFU 0 (zst v 125 8 (yTop R al bs.length)) (by omega) (zFU_lt (by omega)) (h6.of hR fun a b1 b2 => n0 a (by omega)) zst_eq (fun x hx => absurd hx (Nat.not_lt_zero _))
  obtain ⟨u2, b1, b2, b3⟩ := meas_L (ru := ru) (al := al) hR hb hn bs.length zFU 0 u1 (by omega) (zFU_lt (by omega)) (h6.of hR fun a c1 c2 => by rw [a4 a (by omega) (by omega) (by omega), n0 a (by omega)]) a2 (by rw [a4 126 (by decide) (by decide) (by decide), n0 126 (by decide)]; exact h7) (by rw [a4 128 (by decide) (by decide) (by decide), n0 128 (by decide)]; exact h8) (fun j hj => absurd hj (Nat.not_lt_zero _))
  have tw2 : yTw R al (yTop R al bs.length) u2 := by
    unfold yTw
    rw [b3 125 (by decide) (by decide) (by decide), b3 132 (by decide) (by decide) (by decide), b3 133 (by decide) (by decide) (by decide)]
    exact a2
  obtain ⟨u3, c1, c2, c3⟩ := lev_L (ru := ru) (al := al) hR hn bs.length zFU u2 (Nat.le_refl _) (zFU_lt (by omega)) tw2 b2 ⟨fun c d1 d2 => by
    rw [b3 135 (by decide) (by decide) (by decide), a3 c (by omega), List.drop_length]
    rfl, fun j d1 d2 => by omega⟩
  have nu : ∀ a, (a < 125 ∨ 136 < a ∨ a = 126 ∨ a = 127 ∨ a = 128) → u3 a = v a := fun a ha => by rw [c3 a (by omega) (by omega), b3 a (by omega) (by omega) (by omega), a4 a (by omega) (by omega) (by omega), n0 a (by omega)]
  obtain ⟨v', d1, d2, d3, d4⟩ := fol_L (al := al) (ru := ru) hR hb hn bs zFU 0 0 0 u3 rfl (by omega) (Nat.le_refl _) (zFU_lt (by omega)) (Int.le_refl _) (by decide) (by show (0 : Int) ≤ _; omega) (h6.of hR fun a e1 e2 => nu a (by omega)) (by rw [nu 126 (by omega)]; exact h7) (fun j _ hj => by rw [nu 128 (by omega)]; exact h8 j hj) (by
    unfold yTw
    rw [c3 125 (by decide) (by decide), c3 132 (by decide) (by decide), c3 133 (by decide) (by decide)]
    exact tw2) (by
    unfold yTq
    rw [c3 130 (by decide) (by decide), c3 131 (by decide) (by decide), c3 134 (by decide) (by decide)]
    exact b2) c2
  rw [show min ((0 : Nat) : Int) (yTop R al bs.length) = 0 by omega, show ((0 : Nat) : Int) = 0 from rfl, Int.zero_add] at d1
  refine ⟨v', ?_, fun x hx => ?_, fun a ha => by rw [d4 a (by omega) (by omega), nu a (by omega)]⟩
  · rw [show ((0 : Nat) : Int) = 0 from rfl] at a1 b1
    have e1 : fX0_measureQuarters u1 ru = some (u2, 0) := by
      unfold fX0_measureQuarters
      rw [show (0 : Int) = yLs R al bs 0 from rfl]
      rw [show yLs R al bs 0 = 0 from rfl] at b1 ⊢
      rw [b1]
      rfl
    have e2 : fX0_followMarks u3 ru (al : Int) = some (v', yW R al bs 0) := by
      unfold fX0_followMarks
      rw [d1]
      rfl
    unfold fX0_payBest
    rw [h7, c_largest hR h6 hal, zcl_e, zb_e, a1, zl_e, e1, zcl_e, b3 126 (by decide) (by decide) (by decide), a4 126 (by decide) (by decide) (by decide), n0 126 (by decide), h7, zn_pos (by omega), c1, zl_e, e2, zcl_e]
  · have := d2 x hx
    rw [show ((0 : Nat) : Int) = 0 from rfl, Int.zero_add] at this
    exact this
