/-! PURE: the signs fed, cut into tokens; both sides. My own text. -/
def xWs (x : Int) : Bool := decide (x = 32) || decide (x = 10)
def xLt (x : Int) : Bool := decide (97 ≤ x) && decide (x ≤ 122)
def xDg (x : Int) : Bool := decide (48 ≤ x) && decide (x ≤ 57)
theorem xWs_iff {x : Int} : xWs x = true ↔ x = 32 ∨ x = 10 := by
  unfold xWs
  rw [Bool.or_eq_true, decide_eq_true_iff, decide_eq_true_iff]
theorem xLt_iff {x : Int} : xLt x = true ↔ 97 ≤ x ∧ x ≤ 122 := by
  unfold xLt
  rw [Bool.and_eq_true, decide_eq_true_iff, decide_eq_true_iff]
theorem xDg_iff {x : Int} : xDg x = true ↔ 48 ≤ x ∧ x ≤ 57 := by
  unfold xDg
  rw [Bool.and_eq_true, decide_eq_true_iff, decide_eq_true_iff]
/-- how far a run goes -/
def xRun (P : Int → Bool) (B : Nat → Int) : Nat → Nat → Nat
  | 0, p => p
  | d + 1, p => if P (B p) = true then xRun P B d (p + 1) else p
theorem xRun_b {P : Int → Bool} {B : Nat → Int} : ∀ d p : Nat, p ≤ xRun P B d p ∧ xRun P B d p ≤ p + d ∧ (∀ i : Nat, p ≤ i → i < xRun P B d p → P (B i) = true) ∧ (xRun P B d p < p + d → P (B (xRun P B d p)) = false)
  | 0, p => ⟨Nat.le_refl _, Nat.le_refl _, fun i h1 h2 => absurd h2 (by show ¬ i < p; omega), fun h => absurd h (by show ¬ p < p + 0; omega)⟩
  | d + 1, p => by
    obtain ⟨h1, h2, h3, h4⟩ := xRun_b (P := P) (B := B) d (p + 1)
    unfold xRun
    by_cases c : P (B p) = true
    · rw [if_pos c]
      refine ⟨by omega, by omega, fun i a b => ?_, fun h => h4 (by omega)⟩
      by_cases e : i = p
      · rw [e]; exact c
      · exact h3 i (by omega) b
    · rw [if_neg c]
      exact ⟨Nat.le_refl _, by omega, fun i a b => absurd b (by omega), fun _ => Bool.eq_false_iff.mpr c⟩
def xSt (B : Nat → Int) (N e : Nat) : Nat := xRun xWs B (N - e) e
def xSr (B : Nat → Int) (N s : Nat) : Int := if s < N then (if B s = 59 then 3 else if xLt (B s) = true then 1 else if xDg (B s) = true then 2 else 4) else 0
def xEn (B : Nat → Int) (N s : Nat) : Nat := if s < N then (if xLt (B s) = true then xRun xLt B (N - (s + 1)) (s + 1) else if xDg (B s) = true then xRun xDg B (N - (s + 1)) (s + 1) else s + 1) else N
def xNum (B : Nat → Int) (s : Nat) : Nat → Int
  | 0 => 0
  | k + 1 => 10 * xNum B s k + B (s + k) - 48
def xVal (B : Nat → Int) (s e : Nat) : Int := if e - s ≤ 4 then xNum B s (e - s) else 99999
theorem xNum_b {B : Nat → Int} {s : Nat} : ∀ k : Nat, (∀ i : Nat, i < k → xDg (B (s + i)) = true) → 0 ≤ xNum B s k ∧ (k ≤ 1 → xNum B s k ≤ 9) ∧ (k ≤ 2 → xNum B s k ≤ 99) ∧ (k ≤ 3 → xNum B s k ≤ 999) ∧ (k ≤ 4 → xNum B s k ≤ 9999) ∧ (k = 0 → xNum B s k = 0)
  | 0, _ => by
    show 0 ≤ (0 : Int) ∧ (0 ≤ 1 → (0 : Int) ≤ 9) ∧ (0 ≤ 2 → (0 : Int) ≤ 99) ∧ (0 ≤ 3 → (0 : Int) ≤ 999) ∧ (0 ≤ 4 → (0 : Int) ≤ 9999) ∧ (0 = 0 → (0 : Int) = 0)
    decide
  | k + 1, h => by
    obtain ⟨h1, h2, h3, h4, h5, h6⟩ := xNum_b k fun i hi => h i (by omega)
    have hd := xDg_iff.mp (h k (by omega))
    unfold xNum
    omega
/-! the class -/
theorem c_isLetter (v : zHp) (x : Int) : fX9_isLetter v x = some (v, if xLt x = true then 1 else 0) := by
  unfold fX9_isLetter
  by_cases c : xLt x = true
  · have := xLt_iff.mp c
    rw [if_neg (by omega), if_neg (by omega), if_pos c]
  · have : ¬ (97 ≤ x ∧ x ≤ 122) := fun h => c (xLt_iff.mpr h)
    rw [if_neg c]
    by_cases d : x < 97
    · rw [if_pos d]
    · rw [if_neg d, if_pos (by omega)]
theorem c_isDigit (v : zHp) (x : Int) : fX9_isDigit v x = some (v, if xDg x = true then 1 else 0) := by
  unfold fX9_isDigit
  by_cases c : xDg x = true
  · have := xDg_iff.mp c
    rw [if_neg (by omega), if_neg (by omega), if_pos c]
  · have : ¬ (48 ≤ x ∧ x ≤ 57) := fun h => c (xDg_iff.mpr h)
    rw [if_neg c]
    by_cases d : x < 48
    · rw [if_pos d]
    · rw [if_neg d, if_pos (by omega)]
theorem cskip_L {B : Nat → Int} {N : Nat} (hN : N ≤ 400) : ∀ (d fu p : Nat) (v : zHp), p + d = N → d < fu → v 1 2 = (N : Int) → v 1 4 = (p : Int) → (∀ j : Nat, j < N → v 2 (j : Int) = B j) → ∃ v', fX9_advance_L8 fu v = some (v', 0) ∧ v' 1 4 = ((xRun xWs B d p : Nat) : Int) ∧ (∀ j, j ≠ 4 → v' 1 j = v 1 j) ∧ ∀ a, a ≠ 1 → v' a = v a
  | 0, fu, p, v, h1, h2, h3, h4, h5 => by
    obtain ⟨f, rfl⟩ : ∃ f, fu = f + 1 := ⟨fu - 1, by omega⟩
    refine ⟨v, ?_, h4, fun j _ => rfl, fun a _ => rfl⟩
    rw [fX9_advance_L8.eq_2, h3, h4, if_pos (by omega)]
  | d + 1, fu, p, v, h1, h2, h3, h4, h5 => by
    obtain ⟨f, rfl⟩ : ∃ f, fu = f + 1 := ⟨fu - 1, by omega⟩
    have hb := h5 p (by omega)
    rw [fX9_advance_L8.eq_2, h3, h4, if_neg (by omega), zck_pos (by omega), zck_pos (by omega), hb]
    unfold xRun
    by_cases c : xWs (B p) = true
    · have na : ∀ a, a ≠ 1 → zst v 1 4 ((p + 1 : Nat) : Int) a = v a := fun a ha => by funext j; exact zst_na ha
      obtain ⟨v', g1, g2, g3, g4⟩ := cskip_L (B := B) hN d f (p + 1) (zst v 1 4 ((p + 1 : Nat) : Int)) (by omega) (by omega) (by rw [zst_nj (by decide)]; exact h3) zst_eq (by rw [na 2 (by decide)]; exact h5)
      refine ⟨v', ?_, by rw [if_pos c]; exact g2, fun j hj => by rw [g3 j hj, zst_nj hj], fun a ha => by rw [g4 a ha, na a ha]⟩
      have hj : fX9_advance_J47 (fX9_advance_L8 f) v = some (v', 0) := by
        unfold fX9_advance_J47
        rw [h4, zn_pos (by omega), zb_e, show (p : Int) + 1 = ((p + 1 : Nat) : Int) by omega]
        exact g1
      rcases xWs_iff.mp c with e | e
      · rw [if_pos e]
        exact hj
      · rw [if_neg (by omega), if_neg (by omega)]
        exact hj
    · have hc : ¬ (B p = 32 ∨ B p = 10) := fun h => c (xWs_iff.mpr h)
      rw [if_neg (by omega), if_pos (by omega)]
      exact ⟨v, rfl, by rw [if_neg c]; exact h4, fun j _ => rfl, fun a _ => rfl⟩
theorem clet_L {B : Nat → Int} {N : Nat} (hN : N ≤ 400) : ∀ (d fu p : Nat) (v : zHp), p + d = N → d < fu → v 1 2 = (N : Int) → v 1 5 = (p : Int) → (∀ j : Nat, j < N → v 2 (j : Int) = B j) → ∃ v', fX9_advance_L138 fu v = some (v', 0) ∧ v' 1 5 = ((xRun xLt B d p : Nat) : Int) ∧ (∀ j, j ≠ 5 → v' 1 j = v 1 j) ∧ ∀ a, a ≠ 1 → v' a = v a
  | 0, fu, p, v, h1, h2, h3, h4, h5 => by
    obtain ⟨f, rfl⟩ : ∃ f, fu = f + 1 := ⟨fu - 1, by omega⟩
    refine ⟨v, ?_, h4, fun j _ => rfl, fun a _ => rfl⟩
    rw [fX9_advance_L138.eq_2, h3, h4, if_pos (by omega)]
  | d + 1, fu, p, v, h1, h2, h3, h4, h5 => by
    obtain ⟨f, rfl⟩ : ∃ f, fu = f + 1 := ⟨fu - 1, by omega⟩
    have hb := h5 p (by omega)
    rw [fX9_advance_L138.eq_2, h3, h4, if_neg (by omega), zck_pos (by omega), c_isLetter, zcl_e, hb, h4]
    unfold xRun
    by_cases c : xLt (B p) = true
    · have na : ∀ a, a ≠ 1 → zst v 1 5 ((p + 1 : Nat) : Int) a = v a := fun a ha => by funext j; exact zst_na ha
      obtain ⟨v', g1, g2, g3, g4⟩ := clet_L (B := B) hN d f (p + 1) (zst v 1 5 ((p + 1 : Nat) : Int)) (by omega) (by omega) (by rw [zst_nj (by decide)]; exact h3) zst_eq (by rw [na 2 (by decide)]; exact h5)
      refine ⟨v', ?_, by rw [if_pos c]; exact g2, fun j hj => by rw [g3 j hj, zst_nj hj], fun a ha => by rw [g4 a ha, na a ha]⟩
      rw [if_pos c, if_neg n10, zn_pos (by omega), zb_e, show (p : Int) + 1 = ((p + 1 : Nat) : Int) by omega]
      exact g1
    · rw [if_neg c, if_pos z00]
      exact ⟨v, rfl, by rw [if_neg c]; exact h4, fun j _ => rfl, fun a _ => rfl⟩
theorem cdig_L {B : Nat → Int} {N : Nat} (hN : N ≤ 400) : ∀ (d fu p : Nat) (v : zHp), p + d = N → d < fu → v 1 2 = (N : Int) → v 1 5 = (p : Int) → (∀ j : Nat, j < N → v 2 (j : Int) = B j) → ∃ v', fX9_advance_L197 fu v = some (v', 0) ∧ v' 1 5 = ((xRun xDg B d p : Nat) : Int) ∧ (∀ j, j ≠ 5 → v' 1 j = v 1 j) ∧ ∀ a, a ≠ 1 → v' a = v a
  | 0, fu, p, v, h1, h2, h3, h4, h5 => by
    obtain ⟨f, rfl⟩ : ∃ f, fu = f + 1 := ⟨fu - 1, by omega⟩
    refine ⟨v, ?_, h4, fun j _ => rfl, fun a _ => rfl⟩
    rw [fX9_advance_L197.eq_2, h3, h4, if_pos (by omega)]
  | d + 1, fu, p, v, h1, h2, h3, h4, h5 => by
    obtain ⟨f, rfl⟩ : ∃ f, fu = f + 1 := ⟨fu - 1, by omega⟩
    have hb := h5 p (by omega)
    rw [fX9_advance_L197.eq_2, h3, h4, if_neg (by omega), zck_pos (by omega), c_isDigit, zcl_e, hb, h4]
    unfold xRun
    by_cases c : xDg (B p) = true
    · have na : ∀ a, a ≠ 1 → zst v 1 5 ((p + 1 : Nat) : Int) a = v a := fun a ha => by funext j; exact zst_na ha
      obtain ⟨v', g1, g2, g3, g4⟩ := cdig_L (B := B) hN d f (p + 1) (zst v 1 5 ((p + 1 : Nat) : Int)) (by omega) (by omega) (by rw [zst_nj (by decide)]; exact h3) zst_eq (by rw [na 2 (by decide)]; exact h5)
      refine ⟨v', ?_, by rw [if_pos c]; exact g2, fun j hj => by rw [g3 j hj, zst_nj hj], fun a ha => by rw [g4 a ha, na a ha]⟩
      rw [if_pos c, if_neg n10, zn_pos (by omega), zb_e, show (p : Int) + 1 = ((p + 1 : Nat) : Int) by omega]
      exact g1
    · rw [if_neg c, if_pos z00]
      exact ⟨v, rfl, by rw [if_neg c]; exact h4, fun j _ => rfl, fun a _ => rfl⟩
theorem c_adv {B : Nat → Int} {N e : Nat} (hN : N ≤ 400) {v : zHp} (h2 : v 1 2 = (N : Int)) (h5 : v 1 5 = (e : Int)) (he : e ≤ N) (hB : ∀ j : Nat, j < N → v 2 (j : Int) = B j) : ∃ v', fX9_advance v = some (v', 0) ∧ v' 1 3 = xSr B N (xSt B N e) ∧ v' 1 4 = ((xSt B N e : Nat) : Int) ∧ v' 1 5 = ((xEn B N (xSt B N e) : Nat) : Int) ∧ (∀ j, j ≠ 3 → j ≠ 4 → j ≠ 5 → v' 1 j = v 1 j) ∧ ∀ a, a ≠ 1 → v' a = v a := by
  have na : ∀ a, a ≠ 1 → zst v 1 4 (e : Int) a = v a := fun a ha => by funext j; exact zst_na ha
  obtain ⟨u, g1, g2, g3, g4⟩ := cskip_L (B := B) hN (N - e) zFU e (zst v 1 4 (e : Int)) (by omega) (zFU_lt (by omega)) (by rw [zst_nj (by decide)]; exact h2) zst_eq (by rw [na 2 (by decide)]; exact hB)
  have hs := xRun_b (P := xWs) (B := B) (N - e) e
  have eS : xRun xWs B (N - e) e = xSt B N e := rfl
  rw [eS] at g2 hs
  generalize xSt B N e = s at g2 hs ⊢
  have u2 : u 1 2 = (N : Int) := by rw [g3 2 (by decide), zst_nj (by decide)]; exact h2
  have uB : ∀ j : Nat, j < N → u 2 (j : Int) = B j := by rw [g4 2 (by decide), na 2 (by decide)]; exact hB
  have nb : ∀ x : Int, ∀ a, a ≠ 1 → zst u 1 5 x a = u a := fun x a ha => by funext j; exact zst_na ha
  have nc : ∀ (x y : Int) (a : Nat), a ≠ 1 → zst (zst u 1 5 x) 1 3 y a = u a := fun x y a ha => by funext j; rw [zst_na ha, zst_na ha]
  unfold fX9_advance
  rw [h5, zb_e, g1, zl_e, g2, zn_pos (by omega), zb_e]
  have w4 : ∀ x : Int, zst u 1 5 x 1 4 = (s : Int) := fun x => by rw [zst_nj (by decide)]; exact g2
  have w2 : ∀ x : Int, zst u 1 5 x 1 2 = (N : Int) := fun x => by rw [zst_nj (by decide)]; exact u2
  rw [w4, w2, u2]
  by_cases c : s < N
  · have hb := uB s c
    rw [show min ((s : Int) + 1) (N : Int) = ((s + 1 : Nat) : Int) by omega, if_pos (by omega), zck_pos (by omega), nb _ 2 (by decide), hb]
    unfold xSr xEn
    rw [if_pos c, if_pos c]
    by_cases c1 : B s = 59
    · rw [if_neg (fun h => h c1), if_pos c1, zb_e]
      have f1 : ¬ xLt (B s) = true := fun h => by have := xLt_iff.mp h; omega
      have f2 : ¬ xDg (B s) = true := fun h => by have := xDg_iff.mp h; omega
      rw [if_neg f1, if_neg f2]
      exact ⟨_, rfl, zst_eq, by rw [zst_nj (by decide)]; exact w4 _, by rw [zst_nj (by decide), zst_eq], fun j a b d => by rw [zst_nj a, zst_nj d, g3 j b, zst_nj b], fun a ha => by rw [nc _ _ a ha, g4 a ha, na a ha]⟩
    · rw [if_pos c1, if_neg c1, zck_pos (by omega), c_isLetter, zcl_e]
      by_cases c2 : xLt (B s) = true
      · rw [if_pos c2, if_neg n10, zb_e, if_pos c2, if_pos c2]
        obtain ⟨x, q1, q2, q3, q4⟩ := clet_L (B := B) hN (N - (s + 1)) zFU (s + 1) (zst (zst u 1 5 ((s + 1 : Nat) : Int)) 1 3 1) (by omega) (zFU_lt (by omega)) (by rw [zst_nj (by decide)]; exact w2 _) (by rw [zst_nj (by decide), zst_eq]) (by rw [nc _ _ 2 (by decide)]; exact uB)
        rw [q1, zl_e]
        exact ⟨x, rfl, by rw [q3 3 (by decide), zst_eq], by rw [q3 4 (by decide), zst_nj (by decide)]; exact w4 _, q2, fun j a b d => by rw [q3 j d, zst_nj a, zst_nj d, g3 j b, zst_nj b], fun a ha => by rw [q4 a ha, nc _ _ a ha, g4 a ha, na a ha]⟩
      · rw [if_neg c2, if_pos z00, w4, zck_pos (by omega), nb _ 2 (by decide), hb, c_isDigit, zcl_e, if_neg c2, if_neg c2]
        by_cases c3 : xDg (B s) = true
        · rw [if_pos c3, if_neg n10, zb_e, if_pos c3, if_pos c3]
          obtain ⟨x, q1, q2, q3, q4⟩ := cdig_L (B := B) hN (N - (s + 1)) zFU (s + 1) (zst (zst u 1 5 ((s + 1 : Nat) : Int)) 1 3 2) (by omega) (zFU_lt (by omega)) (by rw [zst_nj (by decide)]; exact w2 _) (by rw [zst_nj (by decide), zst_eq]) (by rw [nc _ _ 2 (by decide)]; exact uB)
          rw [q1, zl_e]
          exact ⟨x, rfl, by rw [q3 3 (by decide), zst_eq], by rw [q3 4 (by decide), zst_nj (by decide)]; exact w4 _, q2, fun j a b d => by rw [q3 j d, zst_nj a, zst_nj d, g3 j b, zst_nj b], fun a ha => by rw [q4 a ha, nc _ _ a ha, g4 a ha, na a ha]⟩
        · rw [if_neg c3, if_pos z00, zb_e, if_neg c3, if_neg c3]
          exact ⟨_, rfl, zst_eq, by rw [zst_nj (by decide)]; exact w4 _, by rw [zst_nj (by decide), zst_eq], fun j a b d => by rw [zst_nj a, zst_nj d, g3 j b, zst_nj b], fun a ha => by rw [nc _ _ a ha, g4 a ha, na a ha]⟩
  · rw [show min ((s : Int) + 1) (N : Int) = (N : Int) by omega, if_neg (by omega), zb_e]
    unfold xSr xEn
    rw [if_neg c, if_neg c]
    exact ⟨_, rfl, zst_eq, by rw [zst_nj (by decide)]; exact w4 _, by rw [zst_nj (by decide), zst_eq], fun j a b d => by rw [zst_nj a, zst_nj d, g3 j b, zst_nj b], fun a ha => by rw [nc _ _ a ha, g4 a ha, na a ha]⟩
