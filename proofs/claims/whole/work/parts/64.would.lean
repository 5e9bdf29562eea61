/-! PURE: would: both sides. My own text. -/
theorem c_payWith {R : Int → Int} {ru : Nat} {cs : Nat → List zP2} {hs : List zP4} {v : zHp} (hR : zWR R) (hI : zIC R ru cs hs v) {w : Nat} (hw : w < 4) (hok : zCdOk R (cs w)) {mo k : Int} {p : Nat} (hp : zPl (cs w) mo p) (hl : (cs w).length < 60) (hmo : zOk2 R mo k) : ∃ v', fX11_payWith v (w : Int) k mo = some (v', yPw R 255 (zPcs R ((cs w).insertIdx p (mo, k)))) ∧ zIC R ru cs hs v' ∧ v' 1 = v 1 ∧ v' 2 = v 2 := by
  obtain ⟨a1, a2, a3, a4, a5, a6⟩ := id hI
  obtain ⟨u1, g1, g2, g3⟩ := c_copy (c := 107) (c2 := 28 + (2 + 18 * w)) (by omega) (a6 w hw).1 hok.1
  obtain ⟨u2, i1, i2, i3⟩ := c_add (kd := k) g2 hp hl
  have n : ∀ a, a < 107 ∨ 109 < a → u2 a = v a := fun a ha => by rw [i3 a (by omega) (by omega) (by omega), g3 a (by omega) (by omega) (by omega)]
  have hok2 := zCdOk_ins hok hp hl hmo
  obtain ⟨u3, k1, k2, k3, k4⟩ := c_renew (al := 255) (ru := ru) (v := u2) hR (by decide) zSC_t hok2 (a3.of hR fun a b1 b2 => n a (by omega)) i2 (a5.of fun a b1 b2 => n a (by omega))
  have hrv : zRV ru u2 := by
    unfold zRV
    rw [n 0 (by omega)]
    exact a1
  have nn : ∀ a, a < 107 → u3 a = v a := fun a ha => by rw [k4 a (by omega) (by omega), n a (by omega)]
  rw [show ((255 : Nat) : Int) = 255 from rfl] at k1
  refine ⟨u3, ?_, hI.of hR (fun a ha => nn a (by omega)) (fun x hx a b1 b2 => nn a (by omega)) (k2.toI hR hok2) (fun x hx => (a6 x hx).2.of fun a b1 b2 => nn a (by omega)), nn 1 (by omega), nn 2 (by omega)⟩
  unfold fX11_payWith
  rw [zck_pos (by omega), Int.toNat_natCast, zb_e, g1, zcl_e, i1, zcl_e, c_ru hrv, k1, zcl_e, c_allPay hR k2, zcl_e]
theorem m_comesI {R : Int → Int} {cs : Nat → List zP2} {hs : List zP4} {v : zHp} (h : zIM R cs hs v) {w : Nat} (hw : w < 4) (hok : ∀ w : Nat, w < 4 → zCdOk R (cs w)) {mo k : Int} {p : Nat} (hp : zPl (cs w) mo p) (hl : (cs w).length < 60) : ∃ v', fX12_comes v (w : Int) mo k = some (v', 0) ∧ zIM R (zUp cs w ((cs w).insertIdx p (mo, k))) hs v' ∧ ∀ a, a ≠ 141 → a ≠ 142 → a ≠ 143 → v' a = v a := by
  obtain ⟨u, g1, g2, g3, g4⟩ := m_comes (kd := k) hw (h.2.2 w hw) hp hl
  refine ⟨u, g1, ⟨by rw [g3 139 (by decide) (by decide) (by decide)]; exact h.1, ?_, zCdM_up g2 fun x hx hne => g4 x (cs x) hne (hok x hx).1 (h.2.2 x hx)⟩, g3⟩
  unfold zHiM
  rw [g3 137 (by decide) (by decide) (by decide), g3 144 (by decide) (by decide) (by decide)]
  exact h.2.1
theorem m_leavesI {R : Int → Int} {cs : Nat → List zP2} {hs : List zP4} {v : zHp} {w : Nat} (hw : w < 4) (hok : ∀ w : Nat, w < 4 → zCdOk R (cs w)) {mo k : Int} {p : Nat} (hp : zPl (cs w) mo p) (hl : (cs w).length < 60) (h : zIM R (zUp cs w ((cs w).insertIdx p (mo, k))) hs v) : ∃ v', fX12_leaves v (w : Int) mo = some (v', 0) ∧ zIM R cs hs v' ∧ ∀ a, a ≠ 141 → a ≠ 142 → a ≠ 143 → v' a = v a := by
  have hc := h.2.2 w hw
  rw [zUp_eq] at hc
  have hlen := ins_len (x := (mo, k)) hp.1
  have hpl := hp.1
  obtain ⟨u, g1, g2, g3, g4⟩ := m_leaves (p := p) hw hc (zInc_ins (hok w hw).2.1 hp) (by omega) (by rw [ins_get hp.1, if_neg (by omega), if_pos rfl]) (by omega)
  rw [del_ins hp.1] at g2
  refine ⟨u, g1, ⟨by rw [g3 139 (by decide) (by decide) (by decide)]; exact h.1, ?_, fun x hx => ?_⟩, g3⟩
  · unfold zHiM
    rw [g3 137 (by decide) (by decide) (by decide), g3 144 (by decide) (by decide) (by decide)]
    exact h.2.1
  · by_cases e : x = w
    · rw [e]
      exact g2
    · have := h.2.2 x hx
      rw [zUp_ne e] at this
      exact g4 x (cs x) e (hok x hx).1 this
/-- would, both sides -/
theorem a_would {vC vM : zHp} (hI : zInv vC vM) (x1 x2 x3 x4 x5 : Int) : ∃ vC' vM' r, fX11_would vC x1 x2 x3 x4 x5 = some (vC', r) ∧ fX12_would vM x1 x2 x3 x4 x5 = some (vM', r) ∧ zInv vC' vM' := by
  obtain ⟨ru, cs, hs, R, hR, hC, hM, hT, hok, hV⟩ := hI
  have hM1 := hM.mv (zMP.thr (v := vM) 0)
  unfold fX11_would fX12_would
  rw [zb_e (zst vM 137 0 0), m_momentOf (by rw [hM1.1]; exact hR.1), hM1.1, zcl_e]
  have no : ∃ vC' vM' r, some (vC, (-2147483648 : Int)) = some (vC', r) ∧ some (zst vM 137 0 0, (-2147483648 : Int)) = some (vM', r) ∧ zInv vC' vM' := ⟨vC, _, _, rfl, rfl, zInv_rd hR hM hT hok hV hC rfl rfl (zMP.thr 0)⟩
  by_cases c1 : 0 ≤ x1 ∧ x1 ≤ 3
  · obtain ⟨w, rfl⟩ : ∃ w : Nat, x1 = (w : Int) := ⟨x1.toNat, by omega⟩
    have hw : w < 4 := by omega
    obtain ⟨r, hr⟩ := zFd_ex (cs w) (zMo R x3 x4 x5)
    rw [c_free hR hC hw (hok w hw) x2 x3 x4 x5 r hr, zcl_e, m_canCome hM1 hw (hok w hw) x2 _ r hr, zcl_e]
    by_cases can : zCan (cs w) x2 (zMo R x3 x4 x5) r
    · obtain ⟨k1, k2, k3, k4⟩ := id can
      rw [if_pos can, if_pos can, if_pos k2, if_pos p10]
      subst k4
      obtain ⟨p, hp⟩ := zPl_ex (hok w hw).2.1 hr
      have hmo : zOk2 R (zMo R x3 x4 x5) x2 := by
        have := zMo_b hR.1 x3 x4 x5
        exact ⟨by omega, by omega, k1.1, k1.2⟩
      generalize zMo R x3 x4 x5 = mo at *
      obtain ⟨u1, g1, g2, g3, g4⟩ := c_payWith hR hC hw (hok w hw) hp k3 hmo
      obtain ⟨u2, i1, i2, i3, i4, i5⟩ := c_sheetOf hR g2 hw (hok w hw)
      obtain ⟨m1, o1, o2⟩ := m_payOf hw hM1.1 hR (hok w hw) (hM1.2.2 w hw)
      have hM2 := hM1.mv o2
      obtain ⟨m2, q1, q2, q3⟩ := m_comesI (k := x2) hM2 hw hok hp k3
      have hcd := q2.2.2 w hw
      rw [zUp_eq] at hcd
      obtain ⟨m3, y1, y2⟩ := m_payOf hw q2.1 hR (zCdOk_ins (hok w hw) hp k3 hmo) hcd
      obtain ⟨m4, t1, t2, t3⟩ := m_leavesI hw hok hp k3 (q2.mv y2)
      have b1 := yPw_b hR (al := 255) (ps := zPcs R (cs w))
      have b2 := yPw_b hR (al := 255) (ps := zPcs R ((cs w).insertIdx p (mo, x2)))
      rw [g1, zcl_e, i1, zcl_e, zb_e, Int.toNat_natCast, c_allPay hR i3, zcl_e, zn_pos (by omega), o1, zcl_e, q1, zcl_e, y1, zcl_e, t1, zcl_e, zn_pos (by omega)]
      refine ⟨u2, m4, _, rfl, rfl, ru, cs, hs, R, hR, i2, t2, ?_, hok, hV⟩
      unfold zTp
      rw [t3 137 (by decide) (by decide) (by decide), t3 138 (by decide) (by decide) (by decide), y2.2.1, y2.1.1, q3 137 (by decide) (by decide) (by decide), q3 138 (by decide) (by decide) (by decide), o2.2.1, o2.1.1, zst_nj (by decide), i4, i5, g3, g4, show zst vM 137 0 0 138 = vM 138 by funext j; exact zst_na (by decide)]
      exact hT
    · rw [if_neg can, if_neg can, if_neg (fun h => h rfl), if_neg n00]
      exact no
  · rw [c_free0 (R := R) (ru := ru) (cs := cs) (hs := hs) c1, zcl_e, m_canCome0 c1, zcl_e, if_neg (fun h => h rfl), if_neg n00]
    exact no
