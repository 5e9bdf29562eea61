/-! PURE: reading without a fault, and behind one; numbers, once-lines. My own text. -/
def xGC (ru : Nat) (v v' : zHp) : Prop := (∀ j : Int, j ≠ 3 → j ≠ 4 → j ≠ 5 → v' 1 j = v 1 j) ∧ ∀ a : Nat, a ≠ 1 → a ≠ 3 → (a < ru ∨ ru + 11 < a) → v' a = v a
def xGM (v v' : zHp) : Prop := (∀ j : Int, (j = 0 ∨ j = 1 ∨ j = 2 ∨ 13 ≤ j) → v' 137 j = v 137 j) ∧ ∀ a : Nat, a ≠ 137 → a ≠ 140 → v' a = v a
/-- behind a fault: the class -/
def xBd (B : Nat → Int) (N ru : Nat) (F : Int) (v0 v : zHp) : Prop := (∃ s e t, xTC B N s e t v ∧ xTo B N s e t) ∧ v 3 0 = F ∧ (1 ≤ F ∧ F ≤ 3203) ∧ xGC ru v0 v ∧ xBy B N ∧ (ru = 4 ∨ ru = 16)
def xBM (F : Int) (v0 v : zHp) : Prop := v 137 8 = F ∧ xGM v0 v
/-- no fault as yet -/
def xGd (B : Nat → Int) (N ru T : Nat) (c0 m0 vC vM : zHp) (s e : Nat) (t : Int) : Prop := xTC B N s e t vC ∧ xTM B N s e t vM ∧ xTo B N s e t ∧ (vC 3 0 = -1 ∧ vM 137 8 = 0) ∧ (vC 3 1 = (T : Int) ∧ vM 137 12 = (T : Int) ∧ T < 32) ∧ xGC ru c0 vC ∧ xGM m0 vM ∧ xBy B N ∧ (ru = 4 ∨ ru = 16)
theorem c_val_L {B : Nat → Int} {N s e : Nat} {v : zHp} (hB : xBy B N) (hC : xTC B N s e 2 v) (hT : xTo B N s e 2) (h4 : e - s ≤ 4) : ∀ (d fu k : Nat), k + d = e - s → d < fu → fX9_value_L22 fu v (xNum B s k) ((s + k : Nat) : Int) = some (v, xNum B s (e - s))
  | 0, fu, k, h1, h2 => by
    obtain ⟨f, rfl⟩ : ∃ f, fu = f + 1 := ⟨fu - 1, by omega⟩
    have ht1 := hT.1
    rw [fX9_value_L22.eq_2, hC.2.2.2.1, if_pos (by omega), show k = e - s by omega]
  | d + 1, fu, k, h1, h2 => by
    obtain ⟨f, rfl⟩ : ∃ f, fu = f + 1 := ⟨fu - 1, by omega⟩
    have hN := hB.1
    have ht1 := hT.1
    have ht2 := hT.2.1
    have hd := xDg_iff.mp (hT.2.2.2.2 rfl (s + k) (by omega) (by omega))
    have hn := xNum_b (B := B) (s := s) k fun i hi => hT.2.2.2.2 rfl (s + i) (by omega) (by omega)
    have eK : xNum B s (k + 1) = 10 * xNum B s k + B (s + k) - 48 := rfl
    rw [fX9_value_L22.eq_2, hC.2.2.2.1, if_neg (by omega), zck_pos (by omega), hC.2.2.2.2 (s + k) (by omega), zn_pos (by omega), zn_pos (by omega), show ((s + k : Nat) : Int) + 1 = ((s + (k + 1) : Nat) : Int) by omega, show xNum B s k * 10 + B (s + k) - 48 = xNum B s (k + 1) by rw [eK]; omega]
    exact c_val_L hB hC hT h4 d f (k + 1) (by omega) (by omega)
theorem c_value {B : Nat → Int} {N s e : Nat} {v : zHp} (hB : xBy B N) (hC : xTC B N s e 2 v) (hT : xTo B N s e 2) : fX9_value v = some (v, if e - s ≤ 4 then xVal B s e else -1) := by
  have hN := hB.1
  have ht1 := hT.1
  have ht2 := hT.2.1
  unfold fX9_value
  rw [hC.2.2.2.1, hC.2.2.1, zn_pos (by omega)]
  by_cases c : e - s ≤ 4
  · have g := c_val_L hB hC hT c (e - s) zFU 0 (by omega) (zFU_lt (by omega))
    rw [show xNum B s 0 = 0 from rfl, Nat.add_zero] at g
    rw [if_pos (by omega), g, zl_e, if_pos c]
    unfold xVal
    rw [if_pos c]
  · rw [if_neg (by omega), if_neg c]
theorem xVal_b {B : Nat → Int} {N s e : Nat} (hT : xTo B N s e 2) : 0 ≤ xVal B s e ∧ (e - s ≤ 4 → xVal B s e ≤ 9999) ∧ (¬ e - s ≤ 4 → xVal B s e = 99999) := by
  have ht1 := hT.1
  have hn := xNum_b (B := B) (s := s) (e - s) fun i hi => hT.2.2.2.2 rfl (s + i) (by omega) (by omega)
  unfold xVal
  by_cases c : e - s ≤ 4
  · rw [if_pos c]
    exact ⟨hn.1, fun _ => hn.2.2.2.2.1 c, fun h => absurd c h⟩
  · rw [if_neg c]
    exact ⟨by decide, fun h => absurd h c, fun _ => rfl⟩
theorem c_ref0 {v : zHp} (h : v 3 0 ≠ -1) (p k : Int) : fX6_refuse v p k = some (v, 0) := by
  unfold fX6_refuse
  rw [if_pos h]
theorem c_ref1 {v : zHp} (h : v 3 0 = -1) {s : Nat} (hs : s ≤ 400) {k : Int} (hk : 0 ≤ k ∧ k ≤ 7) : fX6_refuse v (s : Int) k = some (zst v 3 0 (8 * (s : Int) + k), 0) := by
  unfold fX6_refuse
  rw [if_neg (fun g => g h), zn_pos (by omega), zb_e]
theorem m_bad1 {v : zHp} (h : v 137 8 = 0) {s : Nat} (hs : s ≤ 400) (h4 : v 137 4 = (s : Int)) {k : Int} (hk : 0 ≤ k ∧ k ≤ 7) : fX12_bad v k = some (zst v 137 8 (8 * (s : Int) + k), 0) := by
  unfold fX12_bad
  rw [if_neg (fun g => g h), h4, zn_pos (by omega), zb_e]
theorem xBd.nf {B : Nat → Int} {N ru : Nat} {F : Int} {v0 v : zHp} (h : xBd B N ru F v0 v) : v 3 0 ≠ -1 := by
  have := h.2.1
  have := h.2.2.1
  omega
theorem bd_pass {B : Nat → Int} {N ru : Nat} {F : Int} {v0 v : zHp} (h : xBd B N ru F v0 v) (x : Int) : fX6_passIf v x = some (v, 0) := by
  have hj : fX6_passIf_J13 v = some (v, 0) := by
    unfold fX6_passIf_J13
    rw [if_pos h.nf]
  unfold fX6_passIf
  split
  · exact hj
  · rw [c_ref0 h.nf, zcl_e, hj]
theorem bd_num {B : Nat → Int} {N ru : Nat} {F : Int} {v0 v : zHp} (h : xBd B N ru F v0 v) (lo hi : Int) : ∃ x, fX6_readNumber v lo hi = some (v, x) ∧ -1 ≤ x ∧ x ≤ 9999 := by
  obtain ⟨s, e, t, hC, hT⟩ := h.1
  unfold fX6_readNumber
  rw [hC.2.1]
  have j46 : ∀ x, fX6_readNumber_J46 v x = some (v, x) := fun x => by
    unfold fX6_readNumber_J46
    rw [if_pos h.nf]
  have j37 : ∀ x, fX6_readNumber_J37 v x = some (v, x) := fun x => by
    unfold fX6_readNumber_J37
    rw [c_ref0 h.nf, zcl_e, j46]
  by_cases c : t = 2
  · subst c
    have hb := xVal_b hT
    rw [if_pos rfl, c_value h.2.2.2.2.1 hC hT, zcl_e]
    refine ⟨if e - s ≤ 4 then xVal B s e else -1, ?_, ?_⟩
    · rw [j37, j46]
      repeat' split
      all_goals rfl
    · split <;> omega
  · rw [if_neg c, c_ref0 h.nf, zcl_e]
    exact ⟨-1, rfl, by decide, by decide⟩
theorem bd_tells {B : Nat → Int} {N ru : Nat} {F : Int} {v0 v : zHp} (h : xBd B N ru F v0 v) {i : Nat} {x1 x2 x3 x4 x5 x6 x7 x8 : Int} (hw : xWk i x1 x2 x3 x4 x5 x6 x7 x8) : ∃ r : Int, fX9_tells v i = some (v, r) ∧ (r = 0 ∨ r = 1) := by
  obtain ⟨w, h1, h2, _⟩ := hw
  obtain ⟨s, e, t, hC, hT⟩ := h.1
  obtain ⟨r, g1, g2, _⟩ := c_tells h.2.2.2.2.1 hC hT h1 h2
  exact ⟨r, g1, g2⟩
theorem bd_st {B : Nat → Int} {N ru : Nat} {F : Int} {v0 v : zHp} (h : xBd B N ru F v0 v) {a : Nat} (ha : ru ≤ a ∧ a ≤ ru + 11) (j x : Int) : xBd B N ru F v0 (zst v a j x) := by
  obtain ⟨⟨s, e, t, ⟨c1, c2, c3, c4, c5⟩, hT⟩, h2, h3, h4, h5, h6⟩ := h
  have na : ∀ b, b ≠ a → zst v a j x b = v b := fun b hb => by funext i; exact zst_na hb
  refine ⟨⟨s, e, t, ⟨?_, ?_, ?_, ?_, ?_⟩, hT⟩, ?_, h3, ⟨fun i a1 a2 a3 => ?_, fun b b1 b2 b3 => ?_⟩, h5, h6⟩
  · rw [na 1 (by omega)]; exact c1
  · rw [na 1 (by omega)]; exact c2
  · rw [na 1 (by omega)]; exact c3
  · rw [na 1 (by omega)]; exact c4
  · rw [na 2 (by omega)]; exact c5
  · rw [na 3 (by omega)]; exact h2
  · rw [na 1 (by omega)]; exact h4.1 i a1 a2 a3
  · rw [na b (by omega)]; exact h4.2 b b1 b2 b3
/-- a fault now -/
theorem gd_bad {B : Nat → Int} {N ru T : Nat} {c0 m0 vC vM : zHp} {s e : Nat} {t : Int} (h : xGd B N ru T c0 m0 vC vM s e t) {k : Int} (hk : 1 ≤ k ∧ k ≤ 3) (y : Int) : xBd B N ru (8 * (s : Int) + k) c0 (zst vC 3 0 (8 * (s : Int) + k)) ∧ xBd B N ru (8 * (s : Int) + k) c0 (zst (zst vC 3 0 (8 * (s : Int) + k)) 3 1 y) ∧ xBM (8 * (s : Int) + k) m0 (zst vM 137 8 (8 * (s : Int) + k)) ∧ fX12_bad vM k = some (zst vM 137 8 (8 * (s : Int) + k), 0) ∧ fX6_refuse vC (s : Int) k = some (zst vC 3 0 (8 * (s : Int) + k), 0) := by
  obtain ⟨⟨c1, c2, c3, c4, c5⟩, hM, hT, ⟨f1, f2⟩, hTo, gC, gM, hB, hru⟩ := h
  have hs : s ≤ 400 := by
    have := hT.1
    have := hT.2.1
    have := hB.1
    omega
  have na : ∀ b, b ≠ 3 → zst vC 3 0 (8 * (s : Int) + k) b = vC b := fun b hb => by funext i; exact zst_na hb
  have nb : ∀ b, b ≠ 3 → zst (zst vC 3 0 (8 * (s : Int) + k)) 3 1 y b = vC b := fun b hb => by funext i; rw [zst_na hb, zst_na hb]
  refine ⟨⟨⟨s, e, t, ⟨?_, ?_, ?_, ?_, ?_⟩, hT⟩, zst_eq, by omega, ⟨fun i a1 a2 a3 => ?_, fun b b1 b2 b3 => ?_⟩, hB, hru⟩, ⟨⟨s, e, t, ⟨?_, ?_, ?_, ?_, ?_⟩, hT⟩, ?_, by omega, ⟨fun i a1 a2 a3 => ?_, fun b b1 b2 b3 => ?_⟩, hB, hru⟩, ⟨zst_eq, fun j hj => ?_, fun a a1 a2 => ?_⟩, m_bad1 f2 hs hM.2.2.1 (by omega), c_ref1 f1 hs (by omega)⟩
  · rw [na 1 (by decide)]; exact c1
  · rw [na 1 (by decide)]; exact c2
  · rw [na 1 (by decide)]; exact c3
  · rw [na 1 (by decide)]; exact c4
  · rw [na 2 (by decide)]; exact c5
  · rw [na 1 (by decide)]; exact gC.1 i a1 a2 a3
  · rw [na b b2]; exact gC.2 b b1 b2 b3
  · rw [nb 1 (by decide)]; exact c1
  · rw [nb 1 (by decide)]; exact c2
  · rw [nb 1 (by decide)]; exact c3
  · rw [nb 1 (by decide)]; exact c4
  · rw [nb 2 (by decide)]; exact c5
  · rw [zst_nj (by decide), zst_eq]
  · rw [nb 1 (by decide)]; exact gC.1 i a1 a2 a3
  · rw [nb b b2]; exact gC.2 b b1 b2 b3
  · rw [zst_nj (by omega)]; exact gM.1 j hj
  · funext i
    rw [zst_na a1, gM.2 a a1 a2]
/-- both go on -/
theorem gd_adv {B : Nat → Int} {N ru T : Nat} {c0 m0 vC vM : zHp} {s e : Nat} {t : Int} (h : xGd B N ru T c0 m0 vC vM s e t) : ∃ vC' vM' s' e' t', fX9_advance vC = some (vC', 0) ∧ fX12_go vM = some (vM', 0) ∧ xGd B N ru T c0 m0 vC' vM' s' e' t' ∧ e ≤ s' ∧ (∀ a, a ≠ 1 → vC' a = vC a) ∧ vM' 140 = vM 140 ∧ vM' 137 9 = vM 137 9 := by
  obtain ⟨hC, hM, hT, ⟨f1, f2⟩, ⟨t1, t2, t3⟩, gC, gM, hB, hru⟩ := h
  obtain ⟨vC', vM', s', e', t', a1, a2, a3, a4, a5, a6, a7, a8, a9⟩ := x_adv hB hC hM hT
  refine ⟨vC', vM', s', e', t', a1, a2, ⟨a3, a4, a5, ⟨?_, ?_⟩, ⟨?_, ?_, t3⟩, ⟨fun j b1 b2 b3 => ?_, fun a b1 b2 b3 => ?_⟩, ⟨fun j hj => ?_, fun a b1 b2 => ?_⟩, hB, hru⟩, a6, a7.2, a9 140 (by decide), a8 9 (by decide) (by decide) (by decide) (by decide)⟩
  · rw [a7.2 3 (by decide)]; exact f1
  · rw [a8 8 (by decide) (by decide) (by decide) (by decide)]; exact f2
  · rw [a7.2 3 (by decide)]; exact t1
  · rw [a8 12 (by decide) (by decide) (by decide) (by decide)]; exact t2
  · rw [a7.1 j b1 b2 b3]; exact gC.1 j b1 b2 b3
  · rw [a7.2 a b1]; exact gC.2 a b1 b2 b3
  · rw [a8 j (by omega) (by omega) (by omega) (by omega)]; exact gM.1 j hj
  · rw [a9 a b1]; exact gM.2 a b1 b2
theorem gd_tells {B : Nat → Int} {N ru T : Nat} {c0 m0 vC vM : zHp} {s e : Nat} {t : Int} (h : xGd B N ru T c0 m0 vC vM s e t) {i : Nat} {x1 x2 x3 x4 x5 x6 x7 x8 : Int} (hw : xWk i x1 x2 x3 x4 x5 x6 x7 x8) : ∃ r : Int, fX9_tells vC i = some (vC, r) ∧ fX12_isWord vM x1 x2 x3 x4 x5 x6 x7 x8 = some (vM, r) ∧ (r = 0 ∨ r = 1) ∧ (r = 1 → t = 1) := x_tells h.2.2.2.2.2.2.2.1 h.1 h.2.1 h.2.2.1 hw
/-- writing into the draft -/
theorem gd_st {B : Nat → Int} {N ru T : Nat} {c0 m0 vC vM : zHp} {s e : Nat} {t : Int} (h : xGd B N ru T c0 m0 vC vM s e t) {a : Nat} (ha : ru ≤ a ∧ a ≤ ru + 11) (j x : Int) : xGd B N ru T c0 m0 (zst vC a j x) vM s e t := by
  obtain ⟨⟨c1, c2, c3, c4, c5⟩, hM, hT, ⟨f1, f2⟩, ⟨t1, t2, t3⟩, gC, gM, hB, hru⟩ := h
  have na : ∀ b, b ≠ a → zst vC a j x b = vC b := fun b hb => by funext i; exact zst_na hb
  refine ⟨⟨?_, ?_, ?_, ?_, ?_⟩, hM, hT, ⟨?_, f2⟩, ⟨?_, t2, t3⟩, ⟨fun i a1 a2 a3 => ?_, fun b b1 b2 b3 => ?_⟩, gM, hB, hru⟩
  · rw [na 1 (by omega)]; exact c1
  · rw [na 1 (by omega)]; exact c2
  · rw [na 1 (by omega)]; exact c3
  · rw [na 1 (by omega)]; exact c4
  · rw [na 2 (by omega)]; exact c5
  · rw [na 3 (by omega)]; exact f1
  · rw [na 3 (by omega)]; exact t1
  · rw [na 1 (by omega)]; exact gC.1 i a1 a2 a3
  · rw [na b (by omega)]; exact gC.2 b b1 b2 b3
theorem gd_stM {B : Nat → Int} {N ru T : Nat} {c0 m0 vC vM : zHp} {s e : Nat} {t : Int} (h : xGd B N ru T c0 m0 vC vM s e t) (j x : Int) : xGd B N ru T c0 m0 vC (zst vM 140 j x) s e t := by
  obtain ⟨hC, ⟨m1, m2, m3, m4, m5, m6⟩, hT, ⟨f1, f2⟩, ⟨t1, t2, t3⟩, gC, gM, hB, hru⟩ := h
  have na : ∀ b, b ≠ 140 → zst vM 140 j x b = vM b := fun b hb => by funext i; exact zst_na hb
  refine ⟨hC, ⟨?_, ?_, ?_, ?_, ?_, ?_⟩, hT, ⟨f1, ?_⟩, ⟨t1, ?_, t3⟩, gC, ⟨fun i hi => ?_, fun b b1 b2 => ?_⟩, hB, hru⟩
  · rw [na 137 (by decide)]; exact m1
  · rw [na 137 (by decide)]; exact m2
  · rw [na 137 (by decide)]; exact m3
  · rw [na 137 (by decide)]; exact m4
  · rw [na 137 (by decide)]; exact m5
  · rw [na 138 (by decide)]; exact m6
  · rw [na 137 (by decide)]; exact f2
  · rw [na 137 (by decide)]; exact t2
  · rw [na 137 (by decide)]; exact gM.1 i hi
  · rw [na b b2]; exact gM.2 b b1 b2
theorem gd_st9 {B : Nat → Int} {N ru T : Nat} {c0 m0 vC vM : zHp} {s e : Nat} {t : Int} (h : xGd B N ru T c0 m0 vC vM s e t) (x : Int) : xGd B N ru T c0 m0 vC (zst vM 137 9 x) s e t := by
  obtain ⟨hC, ⟨m1, m2, m3, m4, m5, m6⟩, hT, ⟨f1, f2⟩, ⟨t1, t2, t3⟩, gC, gM, hB, hru⟩ := h
  have nj : ∀ j, j ≠ 9 → zst vM 137 9 x 137 j = vM 137 j := fun j hj => zst_nj hj
  have na : ∀ b, b ≠ 137 → zst vM 137 9 x b = vM b := fun b hb => by funext i; exact zst_na hb
  refine ⟨hC, ⟨?_, ?_, ?_, ?_, ?_, ?_⟩, hT, ⟨f1, ?_⟩, ⟨t1, ?_, t3⟩, gC, ⟨fun i hi => ?_, fun b b1 b2 => ?_⟩, hB, hru⟩
  · rw [nj 3 (by decide)]; exact m1
  · rw [nj 6 (by decide)]; exact m2
  · rw [nj 4 (by decide)]; exact m3
  · rw [nj 5 (by decide)]; exact m4
  · rw [nj 7 (by decide)]; exact m5
  · rw [na 138 (by decide)]; exact m6
  · rw [nj 8 (by decide)]; exact f2
  · rw [nj 12 (by decide)]; exact t2
  · rw [nj i (by omega)]; exact gM.1 i hi
  · rw [na b b1]; exact gM.2 b b1 b2
/-- both read a number -/
theorem gd_num {B : Nat → Int} {N ru T : Nat} {c0 m0 vC vM : zHp} {s e : Nat} {t : Int} (h : xGd B N ru T c0 m0 vC vM s e t) {lo hi : Int} (h0 : 0 ≤ lo) (h1 : hi ≤ 9999) : (t = 2 ∧ lo ≤ xVal B s e ∧ xVal B s e ≤ hi ∧ ∃ vC' vM' s' e' t', fX6_readNumber vC lo hi = some (vC', xVal B s e) ∧ fX12_number vM lo hi = some (vM', 1) ∧ xGd B N ru T c0 m0 vC' vM' s' e' t' ∧ e ≤ s' ∧ (∀ a, a ≠ 1 → vC' a = vC a) ∧ vM' 140 = vM 140 ∧ vM' 137 9 = xVal B s e) ∨ (¬ (t = 2 ∧ lo ≤ xVal B s e ∧ xVal B s e ≤ hi) ∧ ∃ (x F : Int) (vC' vM' : zHp), fX6_readNumber vC lo hi = some (vC', x) ∧ fX12_number vM lo hi = some (vM', 0) ∧ xBd B N ru F c0 vC' ∧ xBM F m0 vM' ∧ -1 ≤ x ∧ x ≤ 9999 ∧ (∀ a, a ≠ 1 → a ≠ 3 → vC' a = vC a) ∧ (t = 2 → x = if e - s ≤ 4 then xVal B s e else -1) ∧ (t ≠ 2 → x = -1)) := by
  obtain ⟨hC, hM, hT, ⟨f1, f2⟩, _, gC, gM, hB, hru⟩ := id h
  unfold fX6_readNumber fX12_number
  rw [hC.2.1, hM.2.1]
  by_cases c : t = 2
  · subst c
    have hb := xVal_b hT
    rw [if_pos rfl, if_pos rfl, c_value hB hC hT, zcl_e, hM.2.2.2.2.1 rfl, m_within, zcl_e]
    by_cases g : lo ≤ xVal B s e ∧ xVal B s e ≤ hi
    · left
      have h4 : e - s ≤ 4 := by
        apply Decidable.byContradiction
        intro h4
        have := hb.2.2 h4
        omega
      obtain ⟨vC', vM', s', e', t', a1, a2, a3, a4, a5, a6, a7⟩ := gd_adv (gd_st9 h (xVal B s e))
      refine ⟨rfl, g.1, g.2, vC', vM', s', e', t', ?_, ?_, a3, a4, a5, ?_, ?_⟩
      · rw [if_pos h4, if_neg (by omega), if_pos g.2]
        unfold fX6_readNumber_J46
        rw [if_neg (fun k => k f1), a1, zcl_e]
      · rw [if_pos g, if_pos p10, hM.2.2.2.2.1 rfl, zb_e, a2, zcl_e]
      · rw [a6]
        funext i
        exact zst_na (by decide)
      · rw [a7, zst_eq]
    · right
      obtain ⟨b1, _, b2, b3, b4⟩ := gd_bad h (k := 2) (by decide) 0
      refine ⟨fun k => g k.2, if e - s ≤ 4 then xVal B s e else -1, 8 * (s : Int) + 2, zst vC 3 0 (8 * (s : Int) + 2), zst vM 137 8 (8 * (s : Int) + 2), ?_, ?_, b1, b2, by split <;> omega, by split <;> omega, fun a a1 a2 => by funext i; exact zst_na a2, fun _ => rfl, fun k => absurd rfl k⟩
      · have j37 : ∀ x, fX6_readNumber_J37 vC x = some (zst vC 3 0 (8 * (s : Int) + 2), x) := fun x => by
          unfold fX6_readNumber_J37 fX6_readNumber_J46
          rw [hC.2.2.1, b4, zcl_e, if_pos b1.nf]
        by_cases d : e - s ≤ 4
        · rw [if_pos d]
          by_cases d1 : xVal B s e < lo
          · rw [if_pos d1, j37]
          · rw [if_neg d1, if_neg (by omega), j37]
        · rw [if_neg d, if_pos (by omega), j37]
      · rw [if_neg g, if_neg n00, b3, zcl_e, zck_pos (by decide)]
  · right
    obtain ⟨b1, _, b2, b3, b4⟩ := gd_bad h (k := 1) (by decide) 0
    refine ⟨fun k => c k.1, -1, 8 * (s : Int) + 1, zst vC 3 0 (8 * (s : Int) + 1), zst vM 137 8 (8 * (s : Int) + 1), ?_, ?_, b1, b2, by decide, by decide, fun a a1 a2 => by funext i; exact zst_na a2, fun k => absurd k c, fun _ => rfl⟩
    · rw [if_neg c, hC.2.2.1, b4, zcl_e]
    · rw [if_neg c, b3, zcl_e, zck_pos (by decide)]
theorem told_1 : ∀ T : Nat, T < 32 → ∀ i : Nat, i < 5 → (zand (T : Int) ((2 ^ i : Nat) : Int) = 0 ↔ T.testBit i = false) := by decide +kernel
theorem told_2 : ∀ T : Nat, T < 32 → ∀ i : Nat, i < 5 → (zand (zshr (T : Int) (i : Int)) 1 = 1 ↔ T.testBit i = true) := by decide +kernel
theorem told_3 : ∀ T : Nat, T < 32 → ∀ i : Nat, i < 5 → zor (T : Int) ((2 ^ i : Nat) : Int) = ((T ||| 2 ^ i : Nat) : Int) := by decide +kernel
theorem told_4 : ∀ T : Nat, T < 32 → ∀ i : Nat, i < 5 → zor (T : Int) (zshl 1 (i : Int)) = ((T ||| 2 ^ i : Nat) : Int) := by decide +kernel
theorem told_5 : ∀ T : Nat, T < 32 → ∀ i : Nat, i < 5 → T ||| 2 ^ i < 32 := by decide +kernel
theorem told_ok (T : Nat) (hT : T < 32) (i : Nat) (hi : i < 5) : (T.testBit i = false → zand (T : Int) ((2 ^ i : Nat) : Int) = 0 ∧ zand (zshr (T : Int) (i : Int)) 1 ≠ 1 ∧ zor (T : Int) ((2 ^ i : Nat) : Int) = ((T ||| 2 ^ i : Nat) : Int) ∧ zor (T : Int) (zshl 1 (i : Int)) = ((T ||| 2 ^ i : Nat) : Int) ∧ T ||| 2 ^ i < 32) ∧ (T.testBit i = true → zand (T : Int) ((2 ^ i : Nat) : Int) ≠ 0 ∧ zand (zshr (T : Int) (i : Int)) 1 = 1) := by
  refine ⟨fun h => ⟨(told_1 T hT i hi).mpr h, fun k => ?_, told_3 T hT i hi, told_4 T hT i hi, told_5 T hT i hi⟩, fun h => ⟨fun k => ?_, (told_2 T hT i hi).mpr h⟩⟩
  · have := (told_2 T hT i hi).mp k
    rw [h] at this
    exact absurd this (by decide)
  · have := (told_1 T hT i hi).mp k
    rw [h] at this
    exact absurd this (by decide)
/-- a line that may come once -/
theorem gd_once {B : Nat → Int} {N ru T : Nat} {c0 m0 vC vM : zHp} {s e : Nat} {t : Int} (h : xGd B N ru T c0 m0 vC vM s e t) {i : Nat} (hi : i < 5) : (T.testBit i = false ∧ ∃ vC' vM' s' e' t', fX6_passOnce vC ((2 ^ i : Nat) : Int) = some (vC', 0) ∧ fX12_once vM (i : Int) = some (vM', 1) ∧ xGd B N ru (T ||| 2 ^ i) c0 m0 vC' vM' s' e' t' ∧ e ≤ s' ∧ (∀ a, a ≠ 1 → a ≠ 3 → vC' a = vC a) ∧ vM' 140 = vM 140) ∨ (T.testBit i = true ∧ ∃ (F : Int) (vC' vM' : zHp), fX6_passOnce vC ((2 ^ i : Nat) : Int) = some (vC', 0) ∧ fX12_once vM (i : Int) = some (vM', 0) ∧ xBd B N ru F c0 vC' ∧ xBM F m0 vM' ∧ (∀ a, a ≠ 1 → a ≠ 3 → vC' a = vC a)) := by
  obtain ⟨hC, hM, hT, ⟨f1, f2⟩, ⟨t1, t2, t3⟩, gC, gM, hB, hru⟩ := id h
  obtain ⟨k1, k2⟩ := told_ok T t3 i hi
  unfold fX6_passOnce fX12_once
  rw [t1, t2]
  cases hb : T.testBit i with
  | false =>
    left
    obtain ⟨b1, b2, b3, b4, b5⟩ := k1 hb
    have nC : ∀ a, a ≠ 3 → zst vC 3 1 ((T ||| 2 ^ i : Nat) : Int) a = vC a := fun a ha => by funext i; exact zst_na ha
    have nM : ∀ j, j ≠ 12 → zst vM 137 12 ((T ||| 2 ^ i : Nat) : Int) 137 j = vM 137 j := fun j hj => zst_nj hj
    have nM2 : ∀ a, a ≠ 137 → zst vM 137 12 ((T ||| 2 ^ i : Nat) : Int) a = vM a := fun a ha => by funext i; exact zst_na ha
    obtain ⟨c1, c2, c3, c4, c5⟩ := hC
    obtain ⟨m1, m2, m3, m4, m5, m6⟩ := hM
    have h' : xGd B N ru (T ||| 2 ^ i) c0 m0 (zst vC 3 1 ((T ||| 2 ^ i : Nat) : Int)) (zst vM 137 12 ((T ||| 2 ^ i : Nat) : Int)) s e t := by
      refine ⟨⟨?_, ?_, ?_, ?_, ?_⟩, ⟨?_, ?_, ?_, ?_, ?_, ?_⟩, hT, ⟨?_, ?_⟩, ⟨zst_eq, zst_eq, b5⟩, ⟨fun i a1 a2 a3 => ?_, fun b b1 b2 b3 => ?_⟩, ⟨fun i hi => ?_, fun b b1 b2 => ?_⟩, hB, hru⟩
      · rw [nC 1 (by decide)]; exact c1
      · rw [nC 1 (by decide)]; exact c2
      · rw [nC 1 (by decide)]; exact c3
      · rw [nC 1 (by decide)]; exact c4
      · rw [nC 2 (by decide)]; exact c5
      · rw [nM 3 (by decide)]; exact m1
      · rw [nM 6 (by decide)]; exact m2
      · rw [nM 4 (by decide)]; exact m3
      · rw [nM 5 (by decide)]; exact m4
      · rw [nM 7 (by decide)]; exact m5
      · rw [nM2 138 (by decide)]; exact m6
      · rw [zst_nj (by decide)]; exact f1
      · rw [nM 8 (by decide)]; exact f2
      · rw [nC 1 (by decide)]; exact gC.1 i a1 a2 a3
      · rw [nC b b2]; exact gC.2 b b1 b2 b3
      · rw [nM i (by omega)]; exact gM.1 i hi
      · rw [nM2 b b1]; exact gM.2 b b1 b2
    obtain ⟨vC', vM', s', e', t', a1, a2, a3, a4, a5, a6, a7⟩ := gd_adv h'
    refine ⟨rfl, vC', vM', s', e', t', ?_, ?_, a3, a4, fun a x1 x2 => by rw [a5 a x1, nC a x2], by rw [a6, nM2 140 (by decide)]⟩
    · unfold fX6_passOnce_J18 fX6_passIf fX6_passIf_J13
      rw [if_pos b1, t1, b3, zb_e, if_pos p10, if_neg (fun k => k (by rw [zst_nj (by decide)]; exact f1)), a1, zcl_e, zcl_e]
    · rw [if_pos b2, b4, zb_e, a2, zcl_e]
  | true =>
    right
    obtain ⟨b1, b2⟩ := k2 hb
    obtain ⟨q1, q2, q3, q4, q5⟩ := gd_bad h (k := 3) (by decide) (zor (T : Int) ((2 ^ i : Nat) : Int))
    refine ⟨rfl, 8 * (s : Int) + 3, zst (zst vC 3 0 (8 * (s : Int) + 3)) 3 1 (zor (T : Int) ((2 ^ i : Nat) : Int)), zst vM 137 8 (8 * (s : Int) + 3), ?_, ?_, q2, q3, fun a _ x2 => by funext i; rw [zst_na x2, zst_na x2]⟩
    · rw [if_neg b1, hC.2.2.1, q5, zcl_e]
      unfold fX6_passOnce_J18
      rw [zst_nj (by decide), t1, zb_e, bd_pass q2, zcl_e]
    · rw [if_neg (fun k => k b2), q4, zcl_e, zck_pos (by decide)]
