/-! PURE: what holds of both between calls; the class's sums along a row. My own text. -/
def zTp (vC vM : zHp) : Prop := 0 ≤ vM 137 2 ∧ vM 137 2 ≤ 400 ∧ vC 1 1 = vM 137 2 ∧ ∀ j : Int, 0 ≤ j → j < vM 137 2 → vC 2 j = zand (vM 138 j) 255
def zIM (R : Int → Int) (cs : Nat → List zP2) (hs : List zP4) (v : zHp) : Prop := v 139 = R ∧ zHiM v hs ∧ ∀ w : Nat, w < 4 → zCdM v (w : Int) (cs w)
/-- what holds between calls -/
def zInv (vC vM : zHp) : Prop := ∃ (ru : Nat) (cs : Nat → List zP2) (hs : List zP4) (R : Int → Int), zWR R ∧ zIC R ru cs hs vC ∧ zIM R cs hs vM ∧ zTp vC vM ∧ (∀ w : Nat, w < 4 → zCdOk R (cs w)) ∧ zVld R hs.reverse cs
theorem zIM.mv {R : Int → Int} {cs : Nat → List zP2} {hs : List zP4} {v v' : zHp} (h : zIM R cs hs v) (m : zMP v v') : zIM R cs hs v' := by
  obtain ⟨h1, h2, h3⟩ := h
  refine ⟨by rw [m.1.2.1]; exact h1, ?_, fun w hw => (h3 w hw).mv m⟩
  unfold zHiM
  rw [m.2.2, m.1.2.2.2.2.2]
  exact h2
theorem zTp.mv {vC vM vC' vM' : zHp} (h : zTp vC vM) (e1 : vC' 1 = vC 1) (e2 : vC' 2 = vC 2) (m : zMP vM vM') : zTp vC' vM' := by
  unfold zTp
  rw [e1, e2, m.2.1, m.1.1]
  exact h
/-- a call that only looks -/
theorem zInv_rd {ru : Nat} {cs : Nat → List zP2} {hs : List zP4} {R : Int → Int} {vC vM vC' vM' : zHp} (h1 : zWR R) (h3 : zIM R cs hs vM) (h4 : zTp vC vM) (h5 : ∀ w : Nat, w < 4 → zCdOk R (cs w)) (h6 : zVld R hs.reverse cs) (g1 : zIC R ru cs hs vC') (e1 : vC' 1 = vC 1) (e2 : vC' 2 = vC 2) (m : zMP vM vM') : zInv vC' vM' := ⟨ru, cs, hs, R, h1, g1, h3.mv m, h4.mv e1 e2 m, h5, h6⟩
theorem m_isWorker (v : zHp) (x : Int) : fX12_isWorker v x = some (v, if 0 ≤ x ∧ x ≤ 3 then 1 else 0) := by
  unfold fX12_isWorker
  rw [m_within, zcl_e]
  split
  · rw [zck_pos (by decide)]
  · rw [zck_pos (by decide)]
theorem c_isWorker (v : zHp) (x : Int) : fX11_isWorker v x = some (v, if 0 ≤ x ∧ x ≤ 3 then 1 else 0) := by
  unfold fX11_isWorker
  repeat' split
  all_goals first | rfl | (exfalso; omega)
theorem m_isWeek (v : zHp) (x : Int) : fX12_isWeek v x = some (v, if 0 ≤ x ∧ x ≤ 3 then 1 else 0) := by
  unfold fX12_isWeek
  rw [m_within, zcl_e]
  split
  · rw [zck_pos (by decide)]
  · rw [zck_pos (by decide)]
theorem c_isWeek (v : zHp) (x : Int) : fX11_isWeek v x = some (v, if 0 ≤ x ∧ x ≤ 3 then 1 else 0) := by
  unfold fX11_isWeek
  repeat' split
  all_goals first | rfl | (exfalso; omega)
theorem m_isAsked {v : zHp} {R : Int → Int} (h : v 139 = R) (hR : zWR R) (x : Int) : fX12_isAsked v x = some (v, if -2 ≤ x ∧ x < R 10 then 1 else 0) := by
  have h8 := hR.2.2.1
  unfold fX12_isAsked
  rw [m_premiums, zcl_e, h, zn_pos (by omega), m_within, zcl_e]
  by_cases c : -2 ≤ x ∧ x < R 10
  · rw [if_pos (by omega : -2 ≤ x ∧ x ≤ R 10 - 1), if_pos c, zck_pos (by decide)]
  · rw [if_neg (by omega : ¬ (-2 ≤ x ∧ x ≤ R 10 - 1)), if_neg c, zck_pos (by decide)]
theorem c_isPremium {v : zHp} {R : Int → Int} {ru : Nat} (h1 : zRV ru v) (h : zRC ru v R) (x : Int) : fX11_isPremium v x = some (v, if 0 ≤ x ∧ x < R 10 then 1 else 0) := by
  have hn : v ru 2 = R 10 := h.2.2.1.1
  unfold fX11_isPremium
  rw [c_ru h1, hn]
  repeat' split
  all_goals first | rfl | (exfalso; omega)
/-- a row that holds something of each quarter of a list -/
def zRo2 (f : Int → Int) (D : Int → Bool) (g : Nat → Int) (a b : Int) : Prop := ∀ q : Int, a ≤ q → q < b → f q = if D q = true then g (zN D q) else -2
theorem cnt_L {D : Int → Bool} {g : Nat → Int} {a b : Int} {v : zHp} {a5 : Nat} (h : zRo2 (v a5) D g a b) (ha : 0 ≤ a) (hb : b ≤ 2692) {pr : Int} (hpr : -2 ≤ pr) (hg : ∀ q : Int, a ≤ q → q < b → D q = true → -1 ≤ g (zN D q)) : ∀ (d fu : Nat) (q x : Int), (q + (d : Int) = b ∨ (d = 0 ∧ b ≤ q)) → a ≤ q → d < fu → 0 ≤ x → x ≤ q → fX11_countDays_L70 fu v pr a5 b x q = some (v, x + (yS (fun i => if pr = -2 then 1 else if g i = pr then 1 else 0) (zN D (q + (d : Int))) - yS (fun i => if pr = -2 then 1 else if g i = pr then 1 else 0) (zN D q)))
  | 0, fu, q, x, h1, h2, h3, h4, h5 => by
    obtain ⟨k, rfl⟩ : ∃ k, fu = k + 1 := ⟨fu - 1, by omega⟩
    rw [fX11_countDays_L70.eq_2, if_pos (by omega), show q + ((0 : Nat) : Int) = q by omega, Int.sub_self, Int.add_zero]
  | d + 1, fu, q, x, h1, h2, h3, h4, h5 => by
    obtain ⟨k, rfl⟩ : ∃ k, fu = k + 1 := ⟨fu - 1, by omega⟩
    have hv := h q h2 (by omega)
    have e0 : q + ((d + 1 : Nat) : Int) = q + 1 + (d : Int) := by omega
    rw [e0, fX11_countDays_L70.eq_2, if_neg (by omega), zck_pos (by omega), hv]
    simp only [zn_pos (show -2147483648 ≤ q + 1 ∧ q + 1 ≤ 2147483647 by omega), zn_pos (show -2147483648 ≤ x + 1 ∧ x + 1 ≤ 2147483647 by omega), zck_pos (show 0 ≤ q ∧ q < 2692 by omega)]
    cases hD : D q with
    | false =>
      have e1 : zN D (q + 1) = zN D q := congrArg List.length (zN_f (by omega) hD)
      have ih := cnt_L h ha hb hpr hg d k (q + 1) x (by omega) (by omega) (by omega) h4 (by omega)
      rw [e1] at ih
      rw [if_neg (by decide : ¬ (false = true))]
      by_cases c : pr = -2
      · rw [if_neg (by omega), if_pos rfl]
        exact ih
      · rw [if_pos c, if_pos (by omega)]
        exact ih
    | true =>
      have e1 := zN_t1 (D := D) (show 0 ≤ q by omega) hD
      have hg1 := hg q h2 (by omega) hD
      have eS : yS (fun i => if pr = -2 then 1 else if g i = pr then 1 else 0) (zN D (q + 1)) = yS (fun i => if pr = -2 then 1 else if g i = pr then 1 else 0) (zN D q) + (if pr = -2 then 1 else if g (zN D q) = pr then 1 else 0) := by
        rw [e1]
        rfl
      rw [if_pos rfl]
      by_cases c : pr = -2
      · have ih := cnt_L h ha hb hpr hg d k (q + 1) (x + 1) (by omega) (by omega) (by omega) (by omega) (by omega)
        rw [eS, if_pos c] at ih
        rw [if_neg (by omega), if_neg (by omega), ih]
        exact zpe (by omega)
      · by_cases c2 : g (zN D q) = pr
        · have ih := cnt_L h ha hb hpr hg d k (q + 1) (x + 1) (by omega) (by omega) (by omega) (by omega) (by omega)
          rw [eS, if_neg c, if_pos c2] at ih
          rw [if_pos c, if_neg (by omega), ih]
          exact zpe (by omega)
        · have ih := cnt_L h ha hb hpr hg d k (q + 1) x (by omega) (by omega) (by omega) h4 (by omega)
          rw [eS, if_neg c, if_neg c2] at ih
          rw [if_pos c, if_pos c2, ih]
          exact zpe (by omega)
theorem ctd_L {R : Int → Int} (hR : zWR R) {ru : Nat} {D : Int → Bool} {g : Nat → Int} {a b : Int} {v : zHp} {a5 : Nat} (hr1 : zRV ru v) (hr2 : zRC ru v R) (h : zRo2 (v a5) D g a b) (ha : 0 ≤ a) (hb : b ≤ 2692) (hg : ∀ q : Int, a ≤ q → q < b → D q = true → (g (zN D q) = -1 ∨ (0 ≤ g (zN D q) ∧ g (zN D q) < R 10))) : ∀ (d fu : Nat) (q x : Int), (q + (d : Int) = b ∨ (d = 0 ∧ b ≤ q)) → a ≤ q → d < fu → 0 ≤ x → x ≤ q → fX11_counted_L80 fu v a5 b x q = some (v, x + (yS (fun i => yCn R (g i)) (zN D (q + (d : Int))) - yS (fun i => yCn R (g i)) (zN D q)))
  | 0, fu, q, x, h1, h2, h3, h4, h5 => by
    obtain ⟨k, rfl⟩ : ∃ k, fu = k + 1 := ⟨fu - 1, by omega⟩
    rw [fX11_counted_L80.eq_2, if_pos (by omega), show q + ((0 : Nat) : Int) = q by omega, Int.sub_self, Int.add_zero]
  | d + 1, fu, q, x, h1, h2, h3, h4, h5 => by
    obtain ⟨k, rfl⟩ : ∃ k, fu = k + 1 := ⟨fu - 1, by omega⟩
    have hv := h q h2 (by omega)
    have e0 : q + ((d + 1 : Nat) : Int) = q + 1 + (d : Int) := by omega
    rw [e0, fX11_counted_L80.eq_2, if_neg (by omega), zck_pos (by omega), hv, c_ru hr1, zck_pos (by omega)]
    cases hD : D q with
    | false =>
      have e1 : zN D (q + 1) = zN D q := congrArg List.length (zN_f (by omega) hD)
      have ih := ctd_L hR hr1 hr2 h ha hb hg d k (q + 1) x (by omega) (by omega) (by omega) h4 (by omega)
      rw [e1] at ih
      rw [if_neg (by decide : ¬ (false = true)), if_pos rfl, zn_pos (by omega)]
      exact ih
    | true =>
      have e1 := zN_t1 (D := D) (show 0 ≤ q by omega) hD
      have hg1 := hg q h2 (by omega) hD
      have eS : yS (fun i => yCn R (g i)) (zN D (q + 1)) = yS (fun i => yCn R (g i)) (zN D q) + yCn R (g (zN D q)) := by
        rw [e1]
        rfl
      rw [if_pos rfl, if_neg (by omega), c_countsUnder hR hr2 hg1, zcl_e]
      rcases yCn_b hR hg1 with hc | hc
      · have ih := ctd_L hR hr1 hr2 h ha hb hg d k (q + 1) x (by omega) (by omega) (by omega) h4 (by omega)
        rw [eS, hc] at ih
        rw [hc, if_pos rfl, zn_pos (by omega), ih]
        exact zpe (by omega)
      · have ih := ctd_L hR hr1 hr2 h ha hb hg d k (q + 1) (x + 1) (by omega) (by omega) (by omega) (by omega) (by omega)
        rw [eS, hc] at ih
        rw [hc, if_neg (by decide), zn_pos (by omega), zn_pos (by omega), ih]
        exact zpe (by omega)
theorem yPy1_b {R : Int → Int} (hR : zWR R) {x : Int} (hx : x = -1 ∨ (0 ≤ x ∧ x < R 10)) : 0 ≤ R 4 * (100 + yHn R x) ∧ R 4 * (100 + yHn R x) ≤ 160000 := by
  have h1 := yHn_b hR hx
  have h4 := hR.2.1
  exact ⟨Int.mul_nonneg (by omega) (by omega), Int.mul_le_mul (a := R 4) (c := 400) (b := 100 + yHn R x) (d := 400) (by omega) (by omega) (by omega) (by omega)⟩
theorem pod_L {R : Int → Int} (hR : zWR R) {ru : Nat} {D : Int → Bool} {g : Nat → Int} {a b : Int} {v : zHp} {a5 : Nat} (hr1 : zRV ru v) (hr2 : zRC ru v R) (h : zRo2 (v a5) D g a b) (ha : 0 ≤ a) (hb : b ≤ 2692) (hg : ∀ q : Int, a ≤ q → q < b → D q = true → (g (zN D q) = -1 ∨ (0 ≤ g (zN D q) ∧ g (zN D q) < R 10))) : ∀ (d fu : Nat) (q x : Int), (q + (d : Int) = b ∨ (d = 0 ∧ b ≤ q)) → a ≤ q → d < fu → 0 ≤ x → x ≤ 160000 * q → fX11_payOfDays_L29 fu v a5 b x q = some (v, x + (yS (fun i => R 4 * (100 + yHn R (g i))) (zN D (q + (d : Int))) - yS (fun i => R 4 * (100 + yHn R (g i))) (zN D q)))
  | 0, fu, q, x, h1, h2, h3, h4, h5 => by
    obtain ⟨k, rfl⟩ : ∃ k, fu = k + 1 := ⟨fu - 1, by omega⟩
    rw [fX11_payOfDays_L29.eq_2, if_pos (by omega), show q + ((0 : Nat) : Int) = q by omega, Int.sub_self, Int.add_zero]
  | d + 1, fu, q, x, h1, h2, h3, h4, h5 => by
    obtain ⟨k, rfl⟩ : ∃ k, fu = k + 1 := ⟨fu - 1, by omega⟩
    have hv := h q h2 (by omega)
    have e0 : q + ((d + 1 : Nat) : Int) = q + 1 + (d : Int) := by omega
    have h9 : v ru 9 = R 4 := hr2.2.2.1.2.2.2.2.2.2
    rw [e0, fX11_payOfDays_L29.eq_2, if_neg (by omega), zck_pos (by omega), hv, c_ru hr1, c_ru hr1, zck_pos (by omega)]
    cases hD : D q with
    | false =>
      have e1 : zN D (q + 1) = zN D q := congrArg List.length (zN_f (by omega) hD)
      have ih := pod_L hR hr1 hr2 h ha hb hg d k (q + 1) x (by omega) (by omega) (by omega) h4 (by omega)
      rw [e1] at ih
      rw [if_neg (by decide : ¬ (false = true)), if_pos rfl, zn_pos (by omega)]
      exact ih
    | true =>
      have e1 := zN_t1 (D := D) (show 0 ≤ q by omega) hD
      have hg1 := hg q h2 (by omega) hD
      have hb1 := yPy1_b hR hg1
      have eS : yS (fun i => R 4 * (100 + yHn R (g i))) (zN D (q + 1)) = yS (fun i => R 4 * (100 + yHn R (g i))) (zN D q) + R 4 * (100 + yHn R (g (zN D q))) := by
        rw [e1]
        rfl
      have ih := pod_L hR hr1 hr2 h ha hb hg d k (q + 1) (x + R 4 * (100 + yHn R (g (zN D q)))) (by omega) (by omega) (by omega) (by omega) (by omega)
      rw [eS] at ih
      rw [if_pos rfl, if_neg (by omega), c_hundredthsUnder hR hr2 hg1, zcl_e, h9, zn_pos (by omega), zn_pos (by omega), ih]
      exact zpe (by omega)
/-- the rows of a sheet, within a week -/
theorem sh_rows {R : Int → Int} (hR : zWR R) {v : zHp} {a0 al : Nat} {cd : List zP2} (hok : zCdOk R cd) (h : zShF R v a0 al cd) {wk : Nat} (hwk : wk < 4) {a b : Int} (ha : zQA R (7 * (wk : Int)) ≤ a) (hb : b ≤ zQA R (7 * (wk : Int) + 7)) : zRo2 (v (a0 + 5)) (zD R (zPcs R cd) (wk : Int)) (fun i => (yB R al (yBl R (zD R (zPcs R cd) (wk : Int)) al (wk : Int)) 0).getD i 0) a b ∧ zRo2 (v (a0 + 6)) (zD R (zPcs R cd) (wk : Int)) (fun i => (yCm R al (yBl R (zD R (zPcs R cd) (wk : Int)) al (wk : Int)) 0).getD i 0) a b ∧ (∀ q : Int, a ≤ q → q < b → zD R (zPcs R cd) (wk : Int) q = true → zN (zD R (zPcs R cd) (wk : Int)) q < (yBl R (zD R (zPcs R cd) (wk : Int)) al (wk : Int)).length) := by
  obtain ⟨P, E, _, _, _, _, h7, _, _⟩ := h
  have hw := (h7 wk hwk).1
  have z0 := zQA_mono (R := R) (show 0 ≤ 7 * (wk : Int) by omega)
  rw [zQA_0 hR.1] at z0
  refine ⟨fun q q1 q2 => (hw q (by omega) (by omega)).1, fun q q1 q2 => (hw q (by omega) (by omega)).2.1, fun q q1 q2 q3 => ?_⟩
  rw [yBl_len]
  exact (yQL_at (show 0 ≤ q by omega) q3 (by omega)).1
