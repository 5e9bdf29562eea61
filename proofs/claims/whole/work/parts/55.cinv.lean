/-! PURE: what holds of the class between calls. My own text. -/
theorem zShI.of {R : Int → Int} {v v' : zHp} {a0 : Nat} (h : zShI R v a0) (hv : ∀ a : Nat, a0 ≤ a → a ≤ a0 + 14 → v' a = v a) : zShI R v' a0 := by
  obtain ⟨P, E, m, al, ps, ⟨h1, h2, h3⟩, h4, h5, h6, h7, h8, h9⟩ := h
  refine ⟨P, E, m, al, ps, ⟨by rw [hv a0 (by omega) (by omega)]; exact h1, by rw [hv a0 (by omega) (by omega)]; exact h2, h3⟩, ?_, h5, by rw [hv a0 (by omega) (by omega)]; exact h6, h7, by rw [hv a0 (by omega) (by omega)]; exact h8, fun w hw hb => (h9 w hw hb).of (fun q _ _ => ?_) ?_⟩
  · unfold zCdC
    rw [hv P (by omega) (by omega), hv (P + 1) (by omega) (by omega), hv (P + 2) (by omega) (by omega)]
    exact h4
  · rw [hv (a0 + 5) (by omega) (by omega), hv (a0 + 6) (by omega) (by omega), hv (a0 + 7) (by omega) (by omega)]
    exact ⟨rfl, rfl, rfl⟩
  · rw [hv (a0 + 14) (by omega) (by omega)]
theorem zShF.of {R : Int → Int} {v v' : zHp} {a0 al : Nat} {cd : List zP2} (h : zShF R v a0 al cd) (hv : ∀ a : Nat, a0 ≤ a → a ≤ a0 + 14 → v' a = v a) : zShF R v' a0 al cd := by
  obtain ⟨P, E, ⟨h1, h2, h3⟩, h4, h5, h6, h7, h8, h9⟩ := h
  refine ⟨P, E, ⟨by rw [hv a0 (by omega) (by omega)]; exact h1, by rw [hv a0 (by omega) (by omega)]; exact h2, h3⟩, ?_, by rw [hv a0 (by omega) (by omega)]; exact h5, by rw [hv a0 (by omega) (by omega)]; exact h6, fun w hw => (h7 w hw).of (fun q _ _ => ?_) ?_, ?_, fun j hj => ?_⟩
  · unfold zCdC
    rw [hv P (by omega) (by omega), hv (P + 1) (by omega) (by omega), hv (P + 2) (by omega) (by omega)]
    exact h4
  · rw [hv (a0 + 5) (by omega) (by omega), hv (a0 + 6) (by omega) (by omega), hv (a0 + 7) (by omega) (by omega)]
    exact ⟨rfl, rfl, rfl⟩
  · rw [hv (a0 + 14) (by omega) (by omega)]
  · unfold zSpC
    rw [hv a0 (by omega) (by omega), hv (a0 + 2) (by omega) (by omega), hv (a0 + 3) (by omega) (by omega), hv (a0 + 4) (by omega) (by omega)]
    exact h8
  · rw [hv (a0 + 1) (by omega) (by omega)]
    exact h9 j hj
/-- the addresses of a worker's card and sheet, as the code reckons them -/
abbrev zCa (w : Nat) : Nat := 28 + (2 + 18 * w)
abbrev zSa (w : Nat) : Nat := 29 + (4 + 18 * w)
theorem zSC_w : ∀ w : Nat, w < 4 → zSC (29 + (4 + 18 * w)) (28 + (2 + 18 * w)) := by
  intro w hw
  refine ⟨by omega, by omega, by omega, by omega, by omega, ?_, ?_⟩
  · have h : ∀ w : Nat, w < 4 → zK (29 + (4 + 18 * w) + 8) = (4, 3) := by decide
    exact h w hw
  · have h : ∀ w : Nat, w < 4 → zK (29 + (4 + 18 * w) + 11) = (4, 3) := by decide
    exact h w hw
theorem zSC_t : zSC 110 107 := ⟨by decide, by decide, by decide, by decide, by decide, by decide, by decide⟩
theorem zSC_tw : ∀ w : Nat, w < 4 → zSC 110 (28 + (2 + 18 * w)) := fun w hw => ⟨by omega, by omega, by omega, by omega, by omega, by decide, by decide⟩
/-- a worker's sheet -/
def zShW (R : Int → Int) (v : zHp) (a0 : Nat) (cd : List zP2) : Prop := zShI R v a0 ∧ (v a0 0 = 0 → zShF R v a0 255 cd)
theorem zShW.of {R : Int → Int} {v v' : zHp} {a0 : Nat} {cd : List zP2} (h : zShW R v a0 cd) (hv : ∀ a : Nat, a0 ≤ a → a ≤ a0 + 14 → v' a = v a) : zShW R v' a0 cd := ⟨h.1.of hv, fun h0 => (h.2 (by rw [← hv a0 (by omega) (by omega)]; exact h0)).of hv⟩
/-- what holds of the class -/
def zIC (R : Int → Int) (ru : Nat) (cs : Nat → List zP2) (hs : List zP4) (v : zHp) : Prop := zRV ru v ∧ v 0 3 = 20 - (ru : Int) ∧ zRC ru v R ∧ zHiC v hs ∧ zShI R v 110 ∧ ∀ w : Nat, w < 4 → zCdC v (28 + (2 + 18 * w)) (cs w) ∧ zShW R v (29 + (4 + 18 * w)) (cs w)
/-- only the sheets' insides and the place where weeks are paid have changed -/
theorem zIC.of {R : Int → Int} {ru : Nat} {cs : Nat → List zP2} {hs : List zP4} {v v' : zHp} (hR : zWR R) (h : zIC R ru cs hs v) (h1 : ∀ a : Nat, a < 28 ∨ (102 ≤ a ∧ a ≤ 106) → v' a = v a) (h2 : ∀ w : Nat, w < 4 → ∀ a : Nat, 28 + (2 + 18 * w) ≤ a → a ≤ 28 + (2 + 18 * w) + 2 → v' a = v a) (h3 : zShI R v' 110) (h4 : ∀ w : Nat, w < 4 → zShW R v' (29 + (4 + 18 * w)) (cs w)) : zIC R ru cs hs v' := by
  obtain ⟨a1, a2, a3, a4, a5, a6⟩ := h
  refine ⟨?_, by rw [h1 0 (by omega)]; exact a2, a3.of hR fun a b1 b2 => h1 a (by omega), ?_, h3, fun w hw => ⟨?_, h4 w hw⟩⟩
  · unfold zRV
    rw [h1 0 (by omega)]
    exact a1
  · unfold zHiC
    rw [h1 102 (by omega), h1 103 (by omega), h1 104 (by omega), h1 105 (by omega), h1 106 (by omega)]
    exact a4
  · unfold zCdC
    rw [h2 w hw _ (by omega) (by omega), h2 w hw _ (by omega) (by omega), h2 w hw _ (by omega) (by omega)]
    exact (a6 w hw).1
/-- a worker's sheet, renewed if it must be -/
theorem c_sheetOf {R : Int → Int} {ru : Nat} {cs : Nat → List zP2} {hs : List zP4} {v : zHp} (hR : zWR R) (hI : zIC R ru cs hs v) {w : Nat} (hw : w < 4) (hok : zCdOk R (cs w)) : ∃ v', fX11_sheetOf v (w : Int) = some (v', ((29 + (4 + 18 * w) : Nat) : Int)) ∧ zIC R ru cs hs v' ∧ zShF R v' (29 + (4 + 18 * w)) 255 (cs w) ∧ v' 1 = v 1 ∧ v' 2 = v 2 := by
  obtain ⟨a1, a2, a3, a4, a5, a6⟩ := id hI
  obtain ⟨b1, b2, b3⟩ := a6 w hw
  unfold fX11_sheetOf
  rw [zck_pos (by omega), Int.toNat_natCast, zb_e]
  by_cases c : v (29 + (4 + 18 * w)) 0 = 0
  · rw [if_pos c]
    exact ⟨v, rfl, hI, b3 c, rfl, rfl⟩
  · rw [if_neg c, zck_pos (by omega), zb_e, c_ru a1]
    obtain ⟨v', g1, g2, g3, g4⟩ := c_renew (al := 255) hR (by decide) (zSC_w w hw) hok a3 b1 b2
    rw [show ((255 : Nat) : Int) = 255 from rfl] at g1
    rw [g1, zcl_e]
    refine ⟨v', rfl, hI.of hR (fun a ha => g4 a (by omega) (by omega)) (fun x hx a ha hb => g4 a (by omega) (by omega)) (a5.of fun a ha hb => g4 a (by omega) (by omega)) (fun x hx => ?_), g2, g4 1 (by omega) (by omega), g4 2 (by omega) (by omega)⟩
    by_cases e : x = w
    · rw [e]
      exact ⟨g2.toI hR hok, fun _ => g2⟩
    · exact (a6 x hx).2.of fun a ha hb => g4 a (by omega) (by omega)
/-- a sheet's pay -/
theorem c_allPay {R : Int → Int} {v : zHp} {a0 al : Nat} {cd : List zP2} (hR : zWR R) (h : zShF R v a0 al cd) : fX8_allPay v a0 = some (v, yPw R al (zPcs R cd)) := by
  obtain ⟨P, E, _, _, _, _, h7, _, _⟩ := h
  have hb := yPw_b hR (al := al) (ps := zPcs R cd)
  have hw : ∀ w : Nat, w < 4 → v (a0 + 14) (w : Int) = R 4 * yWs R al (zPcs R cd) (w : Int) := fun w hw => (h7 w hw).2
  have hR4 := hR.2.1
  have hp : ∀ n : Nat, n ≤ 4 → 0 ≤ R 4 * yPy R al (zPcs R cd) n ∧ R 4 * yPy R al (zPcs R cd) n ≤ 400 * (400 * 2692) := fun n hn => by
    have h1 := yPy_b hR (al := al) (ps := zPcs R cd) n hn
    have h2 := zQA_mono (R := R) (show 7 * (n : Int) ≤ 28 by omega)
    have h3 := @zQA_b R 28
    exact ⟨Int.mul_nonneg (by omega) h1.1, Int.mul_le_mul (by omega) (by omega) h1.1 (by omega)⟩
  have L : ∀ (d fu k : Nat), k + d = 4 → d < fu → fX8_allPay_L4 fu v a0 (R 4 * yPy R al (zPcs R cd) k) (k : Int) = some (v, yPw R al (zPcs R cd)) := by
    intro d
    induction d with
    | zero =>
      intro fu k h1 h2
      obtain ⟨f, rfl⟩ : ∃ f, fu = f + 1 := ⟨fu - 1, by omega⟩
      rw [fX8_allPay_L4.eq_2, if_pos (by omega), show k = 4 by omega]
      rfl
    | succ d ih =>
      intro fu k h1 h2
      obtain ⟨f, rfl⟩ : ∃ f, fu = f + 1 := ⟨fu - 1, by omega⟩
      have e : R 4 * yPy R al (zPcs R cd) k + R 4 * yWs R al (zPcs R cd) (k : Int) = R 4 * yPy R al (zPcs R cd) (k + 1) := by
        show _ = R 4 * (yPy R al (zPcs R cd) k + yWs R al (zPcs R cd) (k : Int))
        rw [Int.mul_add]
      have h3 := hp (k + 1) (by omega)
      rw [fX8_allPay_L4.eq_2, if_neg (by omega), zck_pos (by omega), hw k (by omega), e, zn_pos (by omega), zn_pos (by omega), show (k : Int) + 1 = ((k + 1 : Nat) : Int) by omega]
      exact ih f (k + 1) (by omega) (by omega)
  have := L 4 zFU 0 rfl (zFU_lt (by decide))
  rw [show R 4 * yPy R al (zPcs R cd) 0 = 0 from Int.mul_zero _, show ((0 : Nat) : Int) = 0 from rfl] at this
  unfold fX8_allPay
  rw [this]
  rfl
/-! sums along a row -/
def yS (h : Nat → Int) : Nat → Int
  | 0 => 0
  | n + 1 => yS h n + h n
theorem yS_list {f : Int → Int} : ∀ (l : List Int), yS (fun i => f (l.getD i 0)) l.length = ySum f l := by
  have key : ∀ (l : List Int) (n : Nat), n ≤ l.length → yS (fun i => f (l.getD i 0)) n + ySum f (l.drop n) = ySum f l := by
    intro l n
    induction n with
    | zero =>
      intro _
      show 0 + ySum f l = _
      omega
    | succ n ih =>
      intro h
      have h1 := ih (by omega)
      rw [dp_c (d := 0) (show n < l.length by omega)] at h1
      show yS (fun i => f (l.getD i 0)) n + f (l.getD n 0) + ySum f (l.drop (n + 1)) = _
      rw [← h1]
      show _ = yS (fun i => f (l.getD i 0)) n + (f (l.getD n 0) + ySum f (l.drop (n + 1)))
      omega
  intro l
  have := key l l.length (Nat.le_refl _)
  rw [List.drop_length] at this
  show _ = _
  have e : ySum f [] = 0 := rfl
  omega
theorem yS_cong {h g : Nat → Int} : ∀ n : Nat, (∀ i, i < n → h i = g i) → yS h n = yS g n
  | 0, _ => rfl
  | n + 1, e => by
    show yS h n + h n = yS g n + g n
    rw [yS_cong n fun i hi => e i (by omega), e n (by omega)]
theorem yS_mul {h : Nat → Int} {r : Int} : ∀ n : Nat, yS (fun i => r * h i) n = r * yS h n
  | 0 => (Int.mul_zero r).symm
  | n + 1 => by
    show yS (fun i => r * h i) n + r * h n = r * (yS h n + h n)
    rw [yS_mul n, Int.mul_add]
theorem yS_b {h : Nat → Int} {lo hi : Int} (h0 : lo ≤ 0) (h1 : 0 ≤ hi) : ∀ n : Nat, (∀ i, i < n → lo ≤ h i ∧ h i ≤ hi) → (n : Int) * lo ≤ yS h n ∧ yS h n ≤ (n : Int) * hi
  | 0, _ => by
    show ((0 : Nat) : Int) * lo ≤ 0 ∧ 0 ≤ ((0 : Nat) : Int) * hi
    omega
  | n + 1, e => by
    have a := yS_b h0 h1 n fun i hi => e i (by omega)
    have b := e n (by omega)
    show ((n + 1 : Nat) : Int) * lo ≤ yS h n + h n ∧ yS h n + h n ≤ ((n + 1 : Nat) : Int) * hi
    rw [show ((n + 1 : Nat) : Int) = (n : Int) + 1 by omega, Int.add_mul, Int.add_mul]
    omega
/-- of a part of a row -/
theorem yS_part {h g : Nat → Int} {a b : Nat} : ∀ n : Nat, b ≤ n → a ≤ b → (∀ i, i < n → g i = if a ≤ i ∧ i < b then h i else 0) → yS g n = yS h b - yS h a := by
  have low : ∀ n : Nat, n ≤ a → (∀ i, i < n → g i = if a ≤ i ∧ i < b then h i else 0) → yS g n = 0 := by
    intro n
    induction n with
    | zero => intro _ _; rfl
    | succ n ih =>
      intro hn e
      show yS g n + g n = 0
      rw [ih (by omega) fun i hi => e i (by omega), e n (by omega), if_neg (by omega)]
      rfl
  have mid : ∀ n : Nat, a ≤ n → n ≤ b → (∀ i, i < n → g i = if a ≤ i ∧ i < b then h i else 0) → yS g n = yS h n - yS h a := by
    intro n
    induction n with
    | zero =>
      intro h1 _ e
      have : a = 0 := by omega
      rw [this]
      show (0 : Int) = 0 - 0
      rfl
    | succ n ih =>
      intro h1 h2 e
      by_cases c : a = n + 1
      · rw [low (n + 1) (by omega) e, c]
        omega
      · show yS g n + g n = yS h n + h n - yS h a
        rw [ih (by omega) (by omega) fun i hi => e i (by omega), e n (by omega), if_pos (by omega)]
        omega
  intro n
  induction n with
  | zero =>
    intro h1 h2 e
    have h3 : b = 0 := by omega
    have h4 : a = 0 := by omega
    rw [h3, h4]
    show (0 : Int) = 0 - 0
    rfl
  | succ n ih =>
    intro h1 h2 e
    by_cases c : b = n + 1
    · rw [c]
      exact mid (n + 1) (by omega) (by omega) e
    · show yS g n + g n = _
      rw [ih (by omega) h2 fun i hi => e i (by omega), e n (by omega), if_neg (by omega)]
      omega
