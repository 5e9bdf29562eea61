/-! PURE: a week whole, by the reference; what it keeps. My own text. -/
/-- what the reference keeps from call to call -/
def zMP (v v' : zHp) : Prop := (v' 138 = v 138 ∧ v' 139 = v 139 ∧ v' 141 = v 141 ∧ v' 142 = v 142 ∧ v' 143 = v 143 ∧ v' 144 = v 144) ∧ v' 137 2 = v 137 2 ∧ v' 137 16 = v 137 16
theorem zMP.rfl' {v : zHp} : zMP v v := ⟨⟨rfl, rfl, rfl, rfl, rfl, rfl⟩, rfl, rfl⟩
theorem zMP.tr {u v w : zHp} (h : zMP u v) (g : zMP v w) : zMP u w := by
  obtain ⟨⟨a1, a2, a3, a4, a5, a6⟩, a7, a8⟩ := h
  obtain ⟨⟨b1, b2, b3, b4, b5, b6⟩, b7, b8⟩ := g
  exact ⟨⟨b1.trans a1, b2.trans a2, b3.trans a3, b4.trans a4, b5.trans a5, b6.trans a6⟩, b7.trans a7, b8.trans a8⟩
theorem zMP.thr {v : zHp} (x : Int) : zMP v (zst v 137 0 x) := ⟨⟨by funext j; exact zst_na (by decide), by funext j; exact zst_na (by decide), by funext j; exact zst_na (by decide), by funext j; exact zst_na (by decide), by funext j; exact zst_na (by decide), by funext j; exact zst_na (by decide)⟩, zst_nj (by decide), zst_nj (by decide)⟩
theorem zMP.mk' {v v' : zHp} (h1 : ∀ a, (138 ≤ a ∧ a ≤ 144 ∧ a ≠ 140) → v' a = v a) (h2 : ∀ j : Int, (j = 2 ∨ j = 16) → v' 137 j = v 137 j) : zMP v v' := ⟨⟨h1 _ (by decide), h1 _ (by decide), h1 _ (by decide), h1 _ (by decide), h1 _ (by decide), h1 _ (by decide)⟩, h2 _ (by decide), h2 _ (by decide)⟩
theorem zCdM.mv {v v' : zHp} {w : Int} {cd : List zP2} (h : zCdM v w cd) (m : zMP v v') : zCdM v' w cd := by
  unfold zCdM
  rw [m.1.2.2.1, m.1.2.2.2.1, m.1.2.2.2.2.1]
  exact h
theorem yLq_eq {R : Int → Int} (hR : zWk R) {ps : List zP2} {wk : Int} (hwk : 0 ≤ wk ∧ wk ≤ 3) {n : Int} (hn : zQA R (7 * wk + 7) ≤ n) : yQL (zD R ps wk) n.toNat = yLq R (zD R ps wk) wk := by
  have z0 := zQA_mono (R := R) (show 0 ≤ 7 * wk + 7 by omega)
  rw [zQA_0 hR] at z0
  exact yQL_skip2 z0 hn fun x a b => Bool.eq_false_iff.mpr fun c => by
    have := (zD_iff.mp c).2.2
    omega
theorem zBi_31 {R : Int → Int} (hR : zWR R) {D : Int → Bool} {al : Nat} {wk q : Int} : zBi R D al wk q < 2 ^ 31 := zmk_31 (by have := hR.2.2.1; omega)
/-- the reference's rows of a week -/
def zWkR (R : Int → Int) (bs : List Nat) (Q : List Int) (v : zHp) : Prop := v 137 23 = (bs.length : Int) ∧ Q.length = bs.length ∧ (∀ i : Nat, i < bs.length → v 149 (i : Int) = Q.getD i 0 ∧ v 150 (i : Int) = ((bs.getD i 0 : Nat) : Int))
theorem m_wk {R : Int → Int} (hR : zWR R) {ps : List zP2} {wk : Int} (hwk : 0 ≤ wk ∧ wk ≤ 3) {v : zHp} (h : zWkM R (zD R ps wk) wk 2720 v) : zWkR R (yBl R (zD R ps wk) 255 wk) (yLq R (zD R ps wk) wk) v ∧ (yBl R (zD R ps wk) 255 wk).length ≤ 676 := by
  have z1 := zQA_mono (R := R) (show 7 * wk ≤ 7 * wk + 7 by omega)
  have z2 := zQA_mono (R := R) (show 7 * wk + 7 ≤ 28 by omega)
  have z3 := @zQA_b R 28
  have hN := zN_676 (ps := ps) hR.1 hwk z1
  have e := yLq_eq (ps := ps) hR.1 hwk (n := 2720) (by omega)
  have hbl : (yBl R (zD R ps wk) 255 wk).length = zN (zD R ps wk) (zQA R (7 * wk + 7)) := yBl_len
  unfold zWkM zN at h
  rw [e] at h
  refine ⟨⟨by rw [h.1, hbl], hbl.symm, fun i hi => ?_⟩, by omega⟩
  rw [hbl] at hi
  have hi2 : i < (yLq R (zD R ps wk) wk).length := hi
  rw [(h.2 i hi2).1, (h.2 i hi2).2, yBl_get hi]
  exact ⟨rfl, rfl⟩
/-- a week laid -/
theorem m_laysWeek {w : Nat} {cd : List zP2} {v : zHp} {R : Int → Int} (hw : w < 4) (h3 : v 139 = R) (hR : zWR R) (hok : zCdOk R cd) (hc : zCdM v (w : Int) cd) {wk : Int} (hwk : 0 ≤ wk ∧ wk ≤ 3) : ∃ v', fX12_laysWeek v (w : Int) wk = some (v', 0) ∧ zMP v v' ∧ zWkR R (yBl R (zD R (zPcs R cd) wk) 255 wk) (yLq R (zD R (zPcs R cd) wk) wk) v' ∧ (yBl R (zD R (zPcs R cd) wk) 255 wk).length ≤ 676 ∧ (∀ i : Nat, i < (yBl R (zD R (zPcs R cd) wk) 255 wk).length → v' 151 (i : Int) = (yB R 255 (yBl R (zD R (zPcs R cd) wk) 255 wk) 0).getD i 0 ∧ v' 152 (i : Int) = (yCm R 255 (yBl R (zD R (zPcs R cd) wk) 255 wk) 0).getD i 0 ∧ v' 153 (i : Int) = (yBc R 255 (yBl R (zD R (zPcs R cd) wk) 255 wk) 0).getD i 0) ∧ v' 137 32 = yBe R 255 (yBl R (zD R (zPcs R cd) wk) 255 wk) 0 ∧ v' 137 33 = yCe R 255 (yBl R (zD R (zPcs R cd) wk) 255 wk) 0 := by
  subst h3
  obtain ⟨u1, a1, a2, a3, a4, a5⟩ := m_laysWorked hw hR hok hc
  have r1 : u1 139 = v 139 := a4 139 (by decide) (by decide) (by decide) (by decide) (by decide)
  obtain ⟨u2, b1, b2, b3, b4⟩ := m_laysQuarters hR (zPcs_ok hR hok).1 hwk r1 a3
  obtain ⟨⟨c1, c2, c3⟩, hn⟩ := m_wk hR hwk b2
  have r2 : u2 139 = v 139 := by rw [b3 139 (by decide) (by decide) (by decide), r1]
  have hok2 := yBl_ok hR (D := zD (v 139) (zPcs (v 139) cd) wk) (al := 255) (wk := wk)
  obtain ⟨u3, d1, d2, d3⟩ := m_laysBest hR hok2 hn r2 (fun j hj => (c3 j hj).2) c1
  have r3 : u3 139 = v 139 := by rw [d3 139 (by decide) (by decide) (by decide), r2]
  obtain ⟨u4, e1, e2, e3, e4, e5⟩ := m_readsBest hR hok2 hn r3 (fun j hj => by rw [d3 150 (by decide) (by decide) (by decide)]; exact (c3 j hj).2) (by rw [d3 137 (by decide) (by decide) (by decide)]; exact c1) d2
  have r4 : u4 139 = v 139 := by rw [e4 139 (by decide) (by decide) (by decide), r3]
  obtain ⟨u5, f1, f2, f3, f4, f5⟩ := m_laysComing hR hok2 hn r4 (fun j hj => by rw [e4 150 (by decide) (by decide) (by decide), d3 150 (by decide) (by decide) (by decide)]; exact (c3 j hj).2) (by rw [e5 23 (by decide), d3 137 (by decide) (by decide) (by decide)]; exact c1)
  refine ⟨u5, ?_, zMP.mk' (fun a ha => by rw [f4 a (by omega) (by omega), e4 a (by omega) (by omega) (by omega), d3 a (by omega) (by omega) (by omega), b3 a (by omega) (by omega) (by omega), a4 a (by omega) (by omega) (by omega) (by omega) (by omega)]) (fun j hj => by rw [f5 j (by omega), e5 j (by omega), d3 137 (by decide) (by decide) (by decide), b4 j (by omega), a5 j (by omega)]), ⟨by rw [f5 23 (by decide), e5 23 (by decide), d3 137 (by decide) (by decide) (by decide)]; exact c1, c2, fun i hi => ?_⟩, hn, fun i hi => ?_, by rw [f5 32 (by decide)]; exact e3, f3⟩
  · unfold fX12_laysWeek
    rw [a1, zcl_e, b1, zcl_e, d1, zcl_e, e1, zcl_e, f1, zcl_e]
  · rw [f4 149 (by decide) (by decide), f4 150 (by decide) (by decide), e4 149 (by decide) (by decide) (by decide), e4 150 (by decide) (by decide) (by decide), d3 149 (by decide) (by decide) (by decide), d3 150 (by decide) (by decide) (by decide)]
    exact c3 i hi
  · rw [f4 151 (by decide) (by decide), f4 153 (by decide) (by decide), f2 i hi]
    exact ⟨(e2 i hi).1, rfl, (e2 i hi).2⟩
/-- what a week comes to, laid over a row of marks -/
def yWs (R : Int → Int) (al : Nat) (ps : List zP2) (wk : Int) : Int := 100 * ((yBl R (zD R ps wk) al wk).length : Int) + yW R al (yBl R (zD R ps wk) al wk) 0
theorem yWs_b {R : Int → Int} (hR : zWR R) {al : Nat} {ps : List zP2} {wk : Int} (hwk : 0 ≤ wk ∧ wk ≤ 3) : 0 ≤ yWs R al ps wk ∧ yWs R al ps wk ≤ 400 * (zQA R (7 * wk + 7) - zQA R (7 * wk)) := by
  have z1 := zQA_mono (R := R) (show 7 * wk ≤ 7 * wk + 7 by omega)
  have hN := zN_676 (ps := ps) hR.1 hwk z1
  have hbl : (yBl R (zD R ps wk) al wk).length = zN (zD R ps wk) (zQA R (7 * wk + 7)) := yBl_len
  have hW := yW_b hR (al := al) (yBl R (zD R ps wk) al wk) 0
  unfold yWs
  omega
theorem m_weekIs {R : Int → Int} (hR : zWR R) {ps : List zP2} (hps : zPok R ps) {v : zHp} (h3 : v 139 = R) (h4 : ∀ x : Int, 0 ≤ x → x < 2720 → v 148 x = if zWd ps x then 1 else 0) {wk : Int} (hwk : 0 ≤ wk ∧ wk ≤ 3) : ∃ u v', fX12_laysQuarters v wk = some (u, 0) ∧ fX12_laysBest u = some (v', 0) ∧ (if v' 137 23 ≠ 0 then v' 154 0 else 0) = yWs R 255 ps wk ∧ (∀ a, a ≠ 149 → a ≠ 150 → a ≠ 137 → a ≠ 154 → a ≠ 155 → a ≠ 156 → v' a = v a) ∧ ∀ j, j ≠ 23 → v' 137 j = v 137 j := by
  obtain ⟨u2, b1, b2, b3, b4⟩ := m_laysQuarters hR hps hwk h3 h4
  obtain ⟨⟨c1, c2, c3⟩, hn⟩ := m_wk hR hwk b2
  have r2 : u2 139 = R := by rw [b3 139 (by decide) (by decide) (by decide), h3]
  have hok2 := yBl_ok hR (D := zD R ps wk) (al := 255) (wk := wk)
  obtain ⟨u3, d1, d2, d3⟩ := m_laysBest hR hok2 hn r2 (fun j hj => (c3 j hj).2) c1
  refine ⟨u2, u3, b1, d1, ?_, fun a a1 a2 a3 a4 a5 a6 => by rw [d3 a a4 a5 a6, b3 a a1 a2 a3], fun j hj => by rw [d3 137 (by decide) (by decide) (by decide), b4 j hj]⟩
  rw [d3 137 (by decide) (by decide) (by decide), c1]
  have t0 := d2 0 (Nat.le_refl _) (Nat.zero_le _) 0 (Nat.le_refl _)
  rw [List.drop_zero] at t0
  have t1 : u3 154 0 = 100 * ((yBl R (zD R ps wk) 255 wk).length : Int) + yW R 255 (yBl R (zD R ps wk) 255 wk) 0 := by
    rw [show (680 * ((0 : Nat) : Int) + ((0 : Nat) : Int)) = 0 from rfl] at t0
    rw [t0]
    show 100 * (_ - 0) + _ = _
    rw [Int.sub_zero]
    rfl
  have hW := yW_b hR (al := 255) (yBl R (zD R ps wk) 255 wk) 0
  unfold yWs
  by_cases c : ((yBl R (zD R ps wk) 255 wk).length : Int) = 0
  · rw [if_neg (fun h => h c)]
    omega
  · rw [if_pos c, t1]
/-- all weeks -/
def yPy (R : Int → Int) (al : Nat) (ps : List zP2) : Nat → Int
  | 0 => 0
  | n + 1 => yPy R al ps n + yWs R al ps (n : Int)
theorem yPy_b {R : Int → Int} (hR : zWR R) {al : Nat} {ps : List zP2} : ∀ n : Nat, n ≤ 4 → 0 ≤ yPy R al ps n ∧ yPy R al ps n ≤ 400 * zQA R (7 * (n : Int))
  | 0, _ => by
    show 0 ≤ (0 : Int) ∧ (0 : Int) ≤ 400 * zQA R 0
    rw [zQA_0 hR.1]
    decide
  | n + 1, h => by
    have h1 := yPy_b hR (al := al) (ps := ps) n (by omega)
    have h2 := yWs_b hR (al := al) (ps := ps) (wk := (n : Int)) (by omega)
    show 0 ≤ yPy R al ps n + yWs R al ps (n : Int) ∧ yPy R al ps n + yWs R al ps (n : Int) ≤ _
    rw [show 7 * ((n + 1 : Nat) : Int) = 7 * (n : Int) + 7 by omega]
    omega
theorem payOf_L {R : Int → Int} (hR : zWR R) {ps : List zP2} (hps : zPok R ps) : ∀ (d fu k : Nat) (v : zHp), k + d = 4 → d < fu → v 139 = R → (∀ x : Int, 0 ≤ x → x < 2720 → v 148 x = if zWd ps x then 1 else 0) → ∃ v', fX12_payOf_L9 fu v (yPy R 255 ps k) (k : Int) = some (v', yPy R 255 ps 4) ∧ (∀ a, a ≠ 149 → a ≠ 150 → a ≠ 137 → a ≠ 154 → a ≠ 155 → a ≠ 156 → v' a = v a) ∧ ∀ j, j ≠ 23 → v' 137 j = v 137 j
  | 0, fu, k, v, h1, h2, h3, h4 => by
    obtain ⟨f, rfl⟩ : ∃ f, fu = f + 1 := ⟨fu - 1, by omega⟩
    refine ⟨v, ?_, fun a _ _ _ _ _ _ => rfl, fun j _ => rfl⟩
    rw [fX12_payOf_L9.eq_2, if_pos (by omega), show k = 4 by omega]
  | d + 1, fu, k, v, h1, h2, h3, h4 => by
    obtain ⟨f, rfl⟩ : ∃ f, fu = f + 1 := ⟨fu - 1, by omega⟩
    obtain ⟨u, x, a1, a2, a3, a4, a5⟩ := m_weekIs hR hps h3 h4 (wk := (k : Int)) (by omega)
    have b1 := yPy_b hR (al := 255) (ps := ps) k (by omega)
    have b2 := yWs_b hR (al := 255) (ps := ps) (wk := (k : Int)) (by omega)
    have q1 := @zQA_b R (7 * (k : Int))
    have q2 := @zQA_b R (7 * (k : Int) + 7)
    obtain ⟨v', g1, g2, g3⟩ := payOf_L hR hps d f (k + 1) x (by omega) (by omega) (by rw [a4 139 (by decide) (by decide) (by decide) (by decide) (by decide) (by decide)]; exact h3) (by rw [a4 148 (by decide) (by decide) (by decide) (by decide) (by decide) (by decide)]; exact h4)
    refine ⟨v', ?_, fun a a1 a2 a3 a5 a6 a7 => by rw [g2 a a1 a2 a3 a5 a6 a7, a4 a a1 a2 a3 a5 a6 a7], fun j hj => by rw [g3 j hj, a5 j hj]⟩
    have eP : yPy R 255 ps (k + 1) = yPy R 255 ps k + yWs R 255 ps (k : Int) := rfl
    rw [← g1, eP, fX12_payOf_L9.eq_2, if_neg (by omega), a1, zcl_e, a2, zcl_e]
    by_cases c : x 137 23 ≠ 0
    · rw [if_pos c] at a3
      rw [if_pos c, zck_pos (by decide), a3, zn_pos (by omega), zn_pos (by omega), show (k : Int) + 1 = ((k + 1 : Nat) : Int) by omega]
    · rw [if_neg c] at a3
      rw [if_neg c, zn_pos (by omega), zn_pos (by omega), show (k : Int) + 1 = ((k + 1 : Nat) : Int) by omega, a3]
/-- one worker's pay -/
def yPw (R : Int → Int) (al : Nat) (ps : List zP2) : Int := R 4 * yPy R al ps 4
theorem yPw_b {R : Int → Int} (hR : zWR R) {al : Nat} {ps : List zP2} : 0 ≤ yPw R al ps ∧ yPw R al ps ≤ 400 * (400 * 2692) := by
  have h := yPy_b hR (al := al) (ps := ps) 4 (Nat.le_refl _)
  have h4 := hR.2.1
  have q := @zQA_b R 28
  rw [show 7 * ((4 : Nat) : Int) = 28 from rfl] at h
  unfold yPw
  exact ⟨Int.mul_nonneg (by omega) h.1, Int.mul_le_mul (by omega) (by omega) h.1 (by omega)⟩
theorem m_payOf {w : Nat} {cd : List zP2} {v : zHp} {R : Int → Int} (hw : w < 4) (h3 : v 139 = R) (hR : zWR R) (hok : zCdOk R cd) (hc : zCdM v (w : Int) cd) : ∃ v', fX12_payOf v (w : Int) = some (v', yPw R 255 (zPcs R cd)) ∧ zMP v v' := by
  subst h3
  obtain ⟨u1, a1, a2, a3, a4, a5⟩ := m_laysWorked hw hR hok hc
  have r1 : u1 139 = v 139 := a4 139 (by decide) (by decide) (by decide) (by decide) (by decide)
  obtain ⟨u2, b1, b2, b3⟩ := payOf_L hR (zPcs_ok hR hok).1 4 zFU 0 u1 rfl (zFU_lt (by decide)) r1 a3
  rw [show yPy (v 139) 255 (zPcs (v 139) cd) 0 = 0 from rfl, show ((0 : Nat) : Int) = 0 from rfl] at b1
  have hb := yPw_b hR (al := 255) (ps := zPcs (v 139) cd)
  refine ⟨u2, ?_, zMP.mk' (fun a ha => by rw [b2 a (by omega) (by omega) (by omega) (by omega) (by omega) (by omega), a4 a (by omega) (by omega) (by omega) (by omega) (by omega)]) (fun j hj => by rw [b3 j (by omega), a5 j (by omega)])⟩
  unfold fX12_payOf
  rw [a1, zcl_e, b1, zl_e, zck_pos (by decide), b2 139 (by decide) (by decide) (by decide) (by decide) (by decide) (by decide), r1]
  unfold yPw at hb ⊢
  rw [zn_pos (by omega)]
/-- all workers' -/
def yPa (R : Int → Int) (al : Nat) (cs : Nat → List zP2) : Nat → Int
  | 0 => 0
  | n + 1 => yPa R al cs n + yPw R al (zPcs R (cs n))
theorem yPa_b {R : Int → Int} (hR : zWR R) {al : Nat} {cs : Nat → List zP2} : ∀ n : Nat, 0 ≤ yPa R al cs n ∧ yPa R al cs n ≤ (n : Int) * (400 * (400 * 2692))
  | 0 => ⟨Int.le_refl _, by show (0 : Int) ≤ ((0 : Nat) : Int) * (400 * (400 * 2692)); decide⟩
  | n + 1 => by
    have h1 := yPa_b hR (al := al) (cs := cs) n
    have h2 := yPw_b hR (al := al) (ps := zPcs R (cs n))
    show 0 ≤ yPa R al cs n + _ ∧ yPa R al cs n + _ ≤ _
    omega
theorem allPay_L {R : Int → Int} (hR : zWR R) {cs : Nat → List zP2} (hok : ∀ w : Nat, w < 4 → zCdOk R (cs w)) : ∀ (d fu k : Nat) (v : zHp), k + d = 4 → d < fu → v 139 = R → (∀ w : Nat, w < 4 → zCdM v (w : Int) (cs w)) → ∃ v', fX12_allPay_L4 fu v (yPa R 255 cs k) (k : Int) = some (v', yPa R 255 cs 4) ∧ zMP v v'
  | 0, fu, k, v, h1, h2, h3, h4 => by
    obtain ⟨f, rfl⟩ : ∃ f, fu = f + 1 := ⟨fu - 1, by omega⟩
    refine ⟨v, ?_, zMP.rfl'⟩
    rw [fX12_allPay_L4.eq_2, if_pos (by omega), show k = 4 by omega]
  | d + 1, fu, k, v, h1, h2, h3, h4 => by
    obtain ⟨f, rfl⟩ : ∃ f, fu = f + 1 := ⟨fu - 1, by omega⟩
    obtain ⟨u, a1, a2⟩ := m_payOf (w := k) (by omega) h3 hR (hok k (by omega)) (h4 k (by omega))
    have b1 := yPa_b hR (al := 255) (cs := cs) k
    have b2 := yPw_b hR (al := 255) (ps := zPcs R (cs k))
    obtain ⟨v', g1, g2⟩ := allPay_L hR hok d f (k + 1) u (by omega) (by omega) (by rw [a2.1.2.1]; exact h3) (fun w hw => (h4 w hw).mv a2)
    refine ⟨v', ?_, a2.tr g2⟩
    have eP : yPa R 255 cs (k + 1) = yPa R 255 cs k + yPw R 255 (zPcs R (cs k)) := rfl
    have hk : (k : Int) ≤ 3 := by omega
    rw [← g1, eP, fX12_allPay_L4.eq_2, if_neg (by omega), a1, zcl_e, zn_pos (by omega), zn_pos (by omega), show (k : Int) + 1 = ((k + 1 : Nat) : Int) by omega]
theorem m_allPay {R : Int → Int} (hR : zWR R) {cs : Nat → List zP2} (hok : ∀ w : Nat, w < 4 → zCdOk R (cs w)) {v : zHp} (h3 : v 139 = R) (h4 : ∀ w : Nat, w < 4 → zCdM v (w : Int) (cs w)) : ∃ v', fX12_allPay v = some (v', yPa R 255 cs 4) ∧ zMP v v' := by
  obtain ⟨v', g1, g2⟩ := allPay_L hR hok 4 zFU 0 v rfl (zFU_lt (by decide)) h3 h4
  rw [show yPa R 255 cs 0 = 0 from rfl, show ((0 : Nat) : Int) = 0 from rfl] at g1
  refine ⟨v', ?_, g2⟩
  unfold fX12_allPay
  rw [g1]
  rfl
