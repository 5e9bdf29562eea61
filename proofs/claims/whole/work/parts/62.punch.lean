/-! PURE: punch, strike, undo: both sides. My own text. -/
theorem zMo_b {R : Int → Int} (hR : zWk R) (d m a : Int) : zMo R d m a = -1 ∨ (0 ≤ zMo R d m a ∧ zMo R d m a < 15 * zQA R 28) := by
  unfold zMo zQA zTurn
  unfold zWk at hR
  repeat' split
  all_goals omega
/-- whether a punch can come -/
abbrev zCan (cd : List zP2) (k mo r : Int) : Prop := (0 ≤ k ∧ k ≤ 2) ∧ mo ≠ -1 ∧ cd.length < 60 ∧ r = -1
theorem c_takes {c : Nat} {cd : List zP2} {v : zHp} {m r : Int} (hc : zCdC v c cd) (hi : zInc cd) (hr : zFd cd m r) (hl : cd.length ≤ 60) : fX1_takes v c m = some (v, if cd.length < 60 ∧ r = -1 then 1 else 0) := by
  have hs := hc.1
  unfold fX1_takes
  rw [hs, c_find hc hi hr hl, zcl_e]
  by_cases a : cd.length < 60
  · rw [if_neg (by omega)]
    by_cases b : r = -1
    · rw [if_neg (fun h => h b), if_pos ⟨a, b⟩]
    · rw [if_pos b, if_neg (fun h => b h.2)]
  · rw [if_pos (by omega), if_neg (fun h => a h.1)]
theorem c_free {R : Int → Int} {ru : Nat} {cs : Nat → List zP2} {hs : List zP4} {v : zHp} (hR : zWR R) (hI : zIC R ru cs hs v) {w : Nat} (hw : w < 4) (hok : zCdOk R (cs w)) (k d m a r : Int) (hr : zFd (cs w) (zMo R d m a) r) : fX11_freeMoment v (w : Int) k d m a = some (v, if zCan (cs w) k (zMo R d m a) r then zMo R d m a else -1) := by
  obtain ⟨a1, a2, a3, a4, a5, a6⟩ := id hI
  unfold fX11_freeMoment
  rw [c_isWorker, zcl_e, if_pos (by omega : 0 ≤ (w : Int) ∧ (w : Int) ≤ 3), if_neg n10, c_ru a1, c_momentAt a3.2.1 hR.1, zcl_e, zck_pos (by omega), Int.toNat_natCast, zb_e, c_takes (a6 w hw).1 hok.2.1 hr hok.1, zcl_e]
  by_cases c1 : 0 ≤ k ∧ k ≤ 2
  · rw [if_neg (by omega : ¬ k < 0), if_pos c1.2]
    by_cases c2 : zMo R d m a = -1
    · rw [if_pos c2, if_neg (fun h => h.2.1 c2)]
    · rw [if_neg c2]
      by_cases c3 : (cs w).length < 60 ∧ r = -1
      · rw [if_pos c3, if_pos p10, if_pos ⟨c1, c2, c3⟩]
      · rw [if_neg c3, if_neg n00, if_neg (fun h => c3 h.2.2)]
  · have nc : ¬ zCan (cs w) k (zMo R d m a) r := fun h => c1 h.1
    rw [if_neg nc]
    by_cases d1 : k < 0
    · rw [if_pos d1]
    · rw [if_neg d1, if_neg (by omega)]
theorem c_free0 {R : Int → Int} {ru : Nat} {cs : Nat → List zP2} {hs : List zP4} {v : zHp} {x : Int} (hx : ¬ (0 ≤ x ∧ x ≤ 3)) (k d m a : Int) : fX11_freeMoment v x k d m a = some (v, -1) := by
  unfold fX11_freeMoment
  rw [c_isWorker, zcl_e, if_neg hx, if_pos z00]
theorem m_canCome {R : Int → Int} {cs : Nat → List zP2} {hs : List zP4} {v : zHp} (hI : zIM R cs hs v) {w : Nat} (hw : w < 4) (hok : zCdOk R (cs w)) (k mo r : Int) (hr : zFd (cs w) mo r) : fX12_canCome v (w : Int) k mo = some (v, if zCan (cs w) k mo r then 1 else 0) := by
  have hc := hI.2.2 w hw
  have hs := hc.1
  unfold fX12_canCome
  rw [m_isWorker, zcl_e, if_pos (by omega : 0 ≤ (w : Int) ∧ (w : Int) ≤ 3), if_neg n10, m_within, zcl_e, zck_pos (by omega), hs, m_placeOf hw hc hok.2.1 hr hok.1, zcl_e]
  by_cases c1 : 0 ≤ k ∧ k ≤ 2
  · rw [if_pos c1, if_neg n10]
    by_cases c2 : mo = -1
    · rw [if_pos c2, if_neg (fun h => h.2.1 c2)]
    · rw [if_neg c2]
      by_cases c3 : (cs w).length < 60
      · rw [if_neg (by omega)]
        by_cases c4 : r = -1
        · rw [if_neg (fun h => h c4), if_pos ⟨c1, c2, c3, c4⟩]
        · rw [if_pos c4, if_neg (fun h => c4 h.2.2.2)]
      · rw [if_pos (by omega), if_neg (fun h => c3 h.2.2.1)]
  · rw [if_neg c1, if_pos z00, if_neg (fun h => c1 h.1)]
theorem m_canCome0 {v : zHp} {x : Int} (hx : ¬ (0 ≤ x ∧ x ≤ 3)) (k mo : Int) : fX12_canCome v x k mo = some (v, 0) := by
  unfold fX12_canCome
  rw [m_isWorker, zcl_e, if_neg hx, if_pos z00]
theorem zShI.stale {R : Int → Int} {v : zHp} {a0 : Nat} (h : zShI R v a0) (x : Int) : zShI R (zst v a0 0 x) a0 := by
  obtain ⟨P, E, m, al, ps, ⟨h1, h2, h3⟩, h4, h5, h6, h7, h8, h9⟩ := h
  have na : ∀ a, a ≠ a0 → zst v a0 0 x a = v a := fun a ha => by funext j; exact zst_na ha
  refine ⟨P, E, m, al, ps, ⟨by rw [zst_nj (by decide)]; exact h1, by rw [zst_nj (by decide)]; exact h2, h3⟩, ?_, h5, by rw [zst_nj (by decide)]; exact h6, h7, by rw [zst_nj (by decide)]; exact h8, fun w hw hb => (h9 w hw hb).of (fun q _ _ => ?_) ?_⟩
  · unfold zCdC
    rw [na P (by omega), na (P + 1) (by omega), na (P + 2) (by omega)]
    exact h4
  · rw [na (a0 + 5) (by omega), na (a0 + 6) (by omega), na (a0 + 7) (by omega)]
    exact ⟨rfl, rfl, rfl⟩
  · rw [na (a0 + 14) (by omega)]
/-- the class's side behind a card that has changed -/
theorem zIC_card {R : Int → Int} {ru : Nat} {cs : Nat → List zP2} {hs hs' : List zP4} {v v' : zHp} (hR : zWR R) (h : zIC R ru cs hs v) {w : Nat} (hw : w < 4) {cd : List zP2} (h1 : zCdC v' (28 + (2 + 18 * w)) cd) (h2 : zHiC v' hs') (h3 : ∀ a : Nat, a ≠ 28 + (2 + 18 * w) → a ≠ 28 + (2 + 18 * w) + 1 → a ≠ 28 + (2 + 18 * w) + 2 → a ≠ 29 + (4 + 18 * w) → (a < 102 ∨ 106 < a) → v' a = v a) (h4 : v' (29 + (4 + 18 * w)) 0 = 1) (h5 : ∀ j, j ≠ 0 → v' (29 + (4 + 18 * w)) j = v (29 + (4 + 18 * w)) j) : zIC R ru (zUp cs w cd) hs' v' := by
  obtain ⟨a1, a2, a3, a4, a5, a6⟩ := id h
  refine ⟨?_, by rw [h3 0 (by omega) (by omega) (by omega) (by omega) (by omega)]; exact a2, a3.of hR fun a b1 b2 => h3 a (by omega) (by omega) (by omega) (by omega) (by omega), h2, a5.of fun a b1 b2 => h3 a (by omega) (by omega) (by omega) (by omega) (by omega), fun x hx => ?_⟩
  · unfold zRV
    rw [h3 0 (by omega) (by omega) (by omega) (by omega) (by omega)]
    exact a1
  · by_cases e : x = w
    · subst e
      rw [zUp_eq]
      refine ⟨h1, ?_, fun h0 => by rw [h4] at h0; exact absurd h0 (by decide)⟩
      have hst := (a6 x hx).2.1.stale 1
      refine hst.of fun a b1 b2 => ?_
      funext j
      by_cases ea : a = 29 + (4 + 18 * x)
      · rw [ea]
        by_cases ej : j = 0
        · rw [ej, zst_eq, h4]
        · rw [zst_nj ej, h5 j ej]
      · rw [zst_na ea, h3 a (by omega) (by omega) (by omega) ea (by omega)]
    · rw [zUp_ne e]
      refine ⟨?_, (a6 x hx).2.of fun a b1 b2 => h3 a (by omega) (by omega) (by omega) (by omega) (by omega)⟩
      unfold zCdC
      rw [h3 _ (by omega) (by omega) (by omega) (by omega) (by omega), h3 _ (by omega) (by omega) (by omega) (by omega) (by omega), h3 _ (by omega) (by omega) (by omega) (by omega) (by omega)]
      exact (a6 x hx).1
theorem zCdOk_up {R : Int → Int} {cs : Nat → List zP2} {w : Nat} {cd : List zP2} (h : ∀ x : Nat, x < 4 → zCdOk R (cs x)) (hc : zCdOk R cd) : ∀ x : Nat, x < 4 → zCdOk R (zUp cs w cd x) := fun x hx => by
  by_cases e : x = w
  · rw [e, zUp_eq]
    exact hc
  · rw [zUp_ne e]
    exact h x hx
theorem zCdM_up {cs : Nat → List zP2} {w : Nat} {cd : List zP2} {v : zHp} (hcd : zCdM v (w : Int) cd) (h : ∀ x : Nat, x < 4 → x ≠ w → zCdM v (x : Int) (cs x)) : ∀ x : Nat, x < 4 → zCdM v (x : Int) (zUp cs w cd x) := fun x hx => by
  by_cases e : x = w
  · rw [e, zUp_eq]
    exact hcd
  · rw [zUp_ne e]
    exact h x hx e
/-- punch, both sides -/
theorem a_punch {vC vM : zHp} (hI : zInv vC vM) (x1 x2 x3 x4 x5 : Int) : ∃ vC' vM' r, fX11_punch vC x1 x2 x3 x4 x5 = some (vC', r) ∧ fX12_punch vM x1 x2 x3 x4 x5 = some (vM', r) ∧ zInv vC' vM' := by
  obtain ⟨ru, cs, hs, R, hR, hC, hM, hT, hok, hV⟩ := hI
  have hM1 := hM.mv (zMP.thr (v := vM) 0)
  unfold fX11_punch fX12_punch
  rw [zb_e, m_momentOf (by rw [hM1.1]; exact hR.1), hM1.1, zcl_e]
  have no : ∃ vC' vM' r, some (vC, (-1 : Int)) = some (vC', r) ∧ some (zst vM 137 0 0, (-1 : Int)) = some (vM', r) ∧ zInv vC' vM' := ⟨vC, _, -1, rfl, rfl, zInv_rd hR hM hT hok hV hC rfl rfl (zMP.thr 0)⟩
  by_cases c1 : 0 ≤ x1 ∧ x1 ≤ 3
  · obtain ⟨w, rfl⟩ : ∃ w : Nat, x1 = (w : Int) := ⟨x1.toNat, by omega⟩
    have hw : w < 4 := by omega
    obtain ⟨r, hr⟩ := zFd_ex (cs w) (zMo R x3 x4 x5)
    rw [c_free hR hC hw (hok w hw) x2 x3 x4 x5 r hr, zcl_e, m_canCome hM1 hw (hok w hw) x2 _ r hr, zcl_e]
    by_cases can : zCan (cs w) x2 (zMo R x3 x4 x5) r
    · obtain ⟨k1, k2, k3, k4⟩ := id can
      rw [if_pos can, if_pos can, if_pos k2, if_pos p10]
      subst k4
      obtain ⟨p, hp⟩ := zPl_ex (hok w hw).2.1 hr
      have hmo : zOk2 R (zMo R x3 x4 x5) x2 := by
        have := zMo_b hR.1 x3 x4 x5
        exact ⟨by omega, by omega, k1.1, k1.2⟩
      generalize zMo R x3 x4 x5 = mo at *
      obtain ⟨u1, g1, g2, g3⟩ := c_add (kd := x2) (hC.2.2.2.2.2 w hw).1 hp k3
      have h102 : ∀ a : Nat, 102 ≤ a → a ≤ 106 → zst u1 (29 + (4 + 18 * w)) 0 1 a = vC a := fun a b1 b2 => by
        funext j
        rw [zst_na (by omega), g3 a (by omega) (by omega) (by omega)]
      obtain ⟨u3, i1, i2, i3⟩ := c_keep (v := zst u1 (29 + (4 + 18 * w)) 0 1) (hs := hs) (w := (w : Int)) (m := mo) (k := x2) (c := 1) (by
        unfold zHiC
        rw [h102 102 (by omega) (by omega), h102 103 (by omega) (by omega), h102 104 (by omega) (by omega), h102 105 (by omega) (by omega), h102 106 (by omega) (by omega)]
        exact hC.2.2.2.1) (Or.inr rfl)
      obtain ⟨m1, o1, o2, o3, o4⟩ := m_comes (kd := x2) hw (hM1.2.2 w hw) hp k3
      obtain ⟨m2, q1, q2, q3, q4⟩ := m_notes (v := m1) (hs := hs) (w := (w : Int)) (m := mo) (k := x2) (c := 1) (by
        unfold zHiM
        rw [o3 137 (by decide) (by decide) (by decide), o3 144 (by decide) (by decide) (by decide)]
        exact hM1.2.1)
      rw [show (1 : Int) - 1 = 0 from rfl] at q1
      have hcd2 : zCdM m2 (w : Int) ((cs w).insertIdx p (mo, x2)) := by
        unfold zCdM
        rw [q3 141 (by decide) (by decide), q3 142 (by decide) (by decide), q3 143 (by decide) (by decide)]
        exact o2
      have hcc : zCdC u3 (28 + (2 + 18 * w)) ((cs w).insertIdx p (mo, x2)) := by
        have n : ∀ a, a ≠ 29 + (4 + 18 * w) → zst u1 (29 + (4 + 18 * w)) 0 1 a = u1 a := fun a ha => by funext j; exact zst_na ha
        unfold zCdC
        rw [i3 _ (by omega), i3 _ (by omega), i3 _ (by omega), n _ (by omega), n _ (by omega), n _ (by omega)]
        exact g2
      rw [zck_pos (by omega), Int.toNat_natCast, zb_e, g1, zcl_e, zck_pos (by omega), zb_e, zb_e, i1, zcl_e, zck_pos (by omega), zb_e, o1, zcl_e, q1, zcl_e, zck_pos (by omega), hcc.1, hcd2.1]
      refine ⟨u3, m2, _, rfl, rfl, ru, zUp cs w ((cs w).insertIdx p (mo, x2)), zHn hs (1, (w : Int), mo, x2), R, hR, ?_, ⟨?_, q2, zCdM_up hcd2 fun x hx hne => ?_⟩, ?_, zCdOk_up hok (zCdOk_ins (hok w hw) hp k3 hmo), ?_⟩
      · refine zIC_card hR hC hw hcc i2 (fun a b1 b2 b3 b4 b5 => ?_) ?_ (fun j hj => ?_)
        · rw [i3 a (by omega)]
          funext j
          rw [zst_na b4, g3 a b1 b2 b3]
        · rw [i3 _ (by omega), zst_eq]
        · rw [i3 _ (by omega), zst_nj hj, g3 _ (by omega) (by omega) (by omega)]
      · rw [q3 139 (by decide) (by decide), o3 139 (by decide) (by decide) (by decide)]
        exact hM1.1
      · have h1 := o4 x (cs x) hne (hok x hx).1 (hM1.2.2 x hx)
        unfold zCdM
        rw [q3 141 (by decide) (by decide), q3 142 (by decide) (by decide), q3 143 (by decide) (by decide)]
        exact h1
      · unfold zTp
        rw [q4 2 (by decide), q3 138 (by decide) (by decide), o3 137 (by decide) (by decide) (by decide), o3 138 (by decide) (by decide) (by decide), zst_nj (by decide), i3 1 (by omega), i3 2 (by omega), show zst u1 (29 + (4 + 18 * w)) 0 1 1 = vC 1 by funext j; rw [zst_na (by omega), g3 1 (by omega) (by omega) (by omega)], show zst u1 (29 + (4 + 18 * w)) 0 1 2 = vC 2 by funext j; rw [zst_na (by omega), g3 2 (by omega) (by omega) (by omega)], show zst vM 137 0 0 138 = vM 138 by funext j; exact zst_na (by decide)]
        exact hT
      · refine zVld_new hV fun rr hrr => ⟨w, hw, rfl, Or.inl ⟨rfl, p, ?_, ?_, ?_⟩⟩
        · rw [zUp_eq, ins_len hp.1]
          have := hp.1
          omega
        · rw [zUp_eq, ins_get hp.1, if_neg (by omega), if_pos rfl]
        · rw [zUp_eq, del_ins hp.1, zUp_up, zUp_id]
          exact hrr
    · rw [if_neg can, if_neg can, if_neg (fun h => h rfl), if_neg n00]
      exact no
  · rw [c_free0 (R := R) (ru := ru) (cs := cs) (hs := hs) c1, zcl_e, m_canCome0 c1, zcl_e, if_neg (fun h => h rfl), if_neg n00]
    exact no
/-- strike, both sides -/
theorem a_strike {vC vM : zHp} (hI : zInv vC vM) (x1 x2 x3 x4 : Int) : ∃ vC' vM' r, fX11_strike vC x1 x2 x3 x4 = some (vC', r) ∧ fX12_strike vM x1 x2 x3 x4 = some (vM', r) ∧ zInv vC' vM' := by
  obtain ⟨ru, cs, hs, R, hR, hC, hM, hT, hok, hV⟩ := hI
  have hM1 := hM.mv (zMP.thr (v := vM) 0)
  unfold fX11_strike fX12_strike
  rw [zb_e (zst vM 137 0 0), c_ru hC.1, c_momentAt hC.2.2.1.2.1 hR.1, zcl_e, c_isWorker, zcl_e, m_momentOf (by rw [hM1.1]; exact hR.1), hM1.1, zcl_e, m_isWorker, zcl_e]
  have no : ∃ vC' vM' r, some (vC, (-1 : Int)) = some (vC', r) ∧ some (zst vM 137 0 0, (-1 : Int)) = some (vM', r) ∧ zInv vC' vM' := ⟨vC, _, -1, rfl, rfl, zInv_rd hR hM hT hok hV hC rfl rfl (zMP.thr 0)⟩
  by_cases c1 : 0 ≤ x1 ∧ x1 ≤ 3
  · obtain ⟨w, rfl⟩ : ∃ w : Nat, x1 = (w : Int) := ⟨x1.toNat, by omega⟩
    have hw : w < 4 := by omega
    rw [if_pos c1, if_neg n10, if_neg n10]
    by_cases c2 : zMo R x2 x3 x4 = -1
    · rw [if_neg (fun h => h c2), if_pos c2]
      exact no
    · obtain ⟨r, hr⟩ := zFd_ex (cs w) (zMo R x2 x3 x4)
      have hokw := hok w hw
      rw [if_pos c2, if_neg c2, zck_pos (by omega), Int.toNat_natCast, zb_e, c_find (hC.2.2.2.2.2 w hw).1 hokw.2.1 hr hokw.1, zcl_e, m_placeOf hw (hM1.2.2 w hw) hokw.2.1 hr hokw.1, zcl_e]
      by_cases c3 : r = -1
      · rw [if_neg (fun h => h c3), if_neg (fun h => h c3)]
        exact no
      · rcases hr with ⟨h, _⟩ | ⟨i, rfl, hi, hm⟩
        · exact absurd h c3
        have hl := hokw.1
        obtain ⟨d1, d2⟩ := (hC.2.2.2.2.2 w hw).1.2 i hi
        obtain ⟨f1, f2⟩ := (hM1.2.2 w hw).2 i hi
        have hr : zFd (cs w) (zMo R x2 x3 x4) (i : Int) := Or.inr ⟨i, rfl, hi, hm⟩
        have hmo : zOk2 R ((cs w).getD i zp0).1 ((cs w).getD i zp0).2 := hokw.2.2 i hi
        rw [hm] at hmo
        generalize zMo R x2 x3 x4 = mo at *
        obtain ⟨u1, g1, g2, g3⟩ := c_keep (v := vC) (hs := hs) (w := (w : Int)) (m := mo) (k := ((cs w).getD i zp0).2) (c := 0) hC.2.2.2.1 (Or.inl rfl)
        obtain ⟨u2, i1, i2, i3⟩ := c_removeAt (v := u1) (c := 28 + (2 + 18 * w)) (cd := cs w) (p := i) (by
          unfold zCdC
          rw [g3 _ (by omega), g3 _ (by omega), g3 _ (by omega)]
          exact (hC.2.2.2.2.2 w hw).1) hi hl
        obtain ⟨m1, o1, o2, o3, o4⟩ := m_notes (v := zst vM 137 0 0) (hs := hs) (w := (w : Int)) (m := mo) (k := ((cs w).getD i zp0).2) (c := 0) hM1.2.1
        rw [show (1 : Int) - 0 = 1 from rfl] at o1
        have hm1 : ∀ x : Nat, x < 4 → zCdM m1 (x : Int) (cs x) := fun x hx => by
          unfold zCdM
          rw [o3 141 (by decide) (by decide), o3 142 (by decide) (by decide), o3 143 (by decide) (by decide)]
          exact hM1.2.2 x hx
        obtain ⟨m2, q1, q2, q3, q4⟩ := m_leaves (v := m1) hw (hm1 w hw) hokw.2.1 hi hm hl
        have n : ∀ a, a ≠ 29 + (4 + 18 * w) → zst u2 (29 + (4 + 18 * w)) 0 1 a = u2 a := fun a ha => by funext j; exact zst_na ha
        have hcc : zCdC (zst u2 (29 + (4 + 18 * w)) 0 1) (28 + (2 + 18 * w)) ((cs w).eraseIdx i) := by
          unfold zCdC
          rw [n _ (by omega), n _ (by omega), n _ (by omega)]
          exact i2
        rw [if_pos c3, if_pos c3, zck_pos (by omega), zb_e, zck_pos (by omega), d2, g1, zcl_e, zck_pos (by omega), zb_e, i1, zcl_e, zck_pos (by omega), zb_e, zb_e, zck_pos (by omega), zb_e, m_placeOf hw (hM1.2.2 w hw) hokw.2.1 hr hokw.1, zcl_e, zck_pos (by omega), f2, o1, zcl_e, q1, zcl_e, zck_pos (by omega), hcc.1, q2.1]
        refine ⟨_, m2, _, rfl, rfl, ru, zUp cs w ((cs w).eraseIdx i), zHn hs (0, (w : Int), mo, ((cs w).getD i zp0).2), R, hR, ?_, ⟨?_, ?_, zCdM_up q2 fun x hx hne => q4 x (cs x) hne (hok x hx).1 (hm1 x hx)⟩, ?_, zCdOk_up hok (zCdOk_del hokw hi), ?_⟩
        · refine zIC_card hR hC hw hcc ?_ (fun a b1 b2 b3 b4 b5 => ?_) zst_eq (fun j hj => ?_)
          · unfold zHiC
            rw [n 102 (by omega), n 103 (by omega), n 104 (by omega), n 105 (by omega), n 106 (by omega), i3 102 (by omega) (by omega) (by omega), i3 103 (by omega) (by omega) (by omega), i3 104 (by omega) (by omega) (by omega), i3 105 (by omega) (by omega) (by omega), i3 106 (by omega) (by omega) (by omega)]
            exact g2
          · rw [n a b4, i3 a b1 b2 b3, g3 a (by omega)]
          · rw [zst_nj hj, i3 _ (by omega) (by omega) (by omega), g3 _ (by omega)]
        · rw [q3 139 (by decide) (by decide) (by decide), o3 139 (by decide) (by decide)]
          exact hM1.1
        · unfold zHiM
          rw [q3 137 (by decide) (by decide) (by decide), q3 144 (by decide) (by decide) (by decide)]
          exact o2
        · unfold zTp
          rw [q3 137 (by decide) (by decide) (by decide), q3 138 (by decide) (by decide) (by decide), o4 2 (by decide), o3 138 (by decide) (by decide), zst_nj (by decide), n 1 (by omega), n 2 (by omega), i3 1 (by omega) (by omega) (by omega), i3 2 (by omega) (by omega) (by omega), g3 1 (by omega), g3 2 (by omega), show zst vM 137 0 0 138 = vM 138 by funext j; exact zst_na (by decide)]
          exact hT
        · refine zVld_new hV fun rr hrr => ⟨w, hw, rfl, Or.inr ⟨rfl, ?_, hmo, i, ?_, ?_⟩⟩
          · rw [zUp_eq, del_len hi]
            omega
          · rw [zUp_eq]
            exact zPl_del hokw.2.1 hi hm
          · have e : (mo, ((cs w).getD i zp0).2) = (cs w).getD i zp0 := by rw [← hm]
            rw [zUp_eq]
            show zVld R rr (zUp _ w (((cs w).eraseIdx i).insertIdx i (mo, ((cs w).getD i zp0).2)))
            rw [e, ins_del hi, zUp_up, zUp_id]
            exact hrr
  · rw [if_neg c1, if_pos z00, if_pos z00]
    exact no
