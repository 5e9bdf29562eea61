/-! PURE: undo, feed, count, moment, clock: both sides, with what holds between calls. My own text. -/
/-- undo, both sides -/
theorem a_undo {vC vM : zHp} (hI : zInv vC vM) : ∃ vC' vM' r, fX11_undo vC = some (vC', r) ∧ fX12_undo vM = some (vM', r) ∧ zInv vC' vM' := by
  obtain ⟨ru, cs, hs, R, hR, hC, hM, hT, hok, hV⟩ := hI
  have hM1 := hM.mv (zMP.thr (v := vM) 0)
  obtain ⟨y1, y2, y3⟩ := id hC.2.2.2.1
  obtain ⟨m1, m2, m3⟩ := id hM1.2.1
  unfold fX11_undo fX12_undo
  rw [zb_e (zst vM 137 0 0), y1, m1]
  rcases List.eq_nil_or_concat hs with h | ⟨t, e, h⟩
  · subst h
    rw [if_neg (by simp), if_neg (by simp)]
    exact ⟨vC, _, -1, rfl, rfl, zInv_rd hR hM hT hok hV hC rfl rfl (zMP.thr 0)⟩
  · rw [List.concat_eq_append] at h
    subst h
    rw [sn_len] at y1 y2 y3 m1 m2 m3
    obtain ⟨y4, y5, y6, y7, y8⟩ := y3 t.length (by omega)
    obtain ⟨m4, m5, m6, m7⟩ := m3 t.length (by omega)
    rw [sn_eq] at y4 y5 y6 y7 y8 m4 m5 m6 m7
    rw [List.reverse_append] at hV
    obtain ⟨w, hw, hew, hcase⟩ := hV
    rw [hew] at y4 m5
    have hokw := hok w hw
    have hl := hokw.1
    have e1 : ((t.length + 1 : Nat) : Int) - 1 = (t.length : Int) := by omega
    have n16 : ∀ a, a ≠ 137 → zst (zst vM 137 0 0) 137 16 (t.length : Int) a = vM a := fun a ha => by
      funext j
      rw [zst_na ha, zst_na ha]
    have n16j : ∀ j, j ≠ 16 → zst (zst vM 137 0 0) 137 16 (t.length : Int) 137 j = zst vM 137 0 0 137 j := fun j hj => zst_nj hj
    have n144 : zst (zst vM 137 0 0) 137 16 (t.length : Int) 144 = zst vM 137 0 0 144 := by rw [n16 144 (by decide)]; funext j; rw [zst_na (by decide)]
    have hcm : ∀ x : Nat, x < 4 → zCdM (zst (zst vM 137 0 0) 137 16 (t.length : Int)) (x : Int) (cs x) := fun x hx => by
      unfold zCdM
      rw [n16 141 (by decide), n16 142 (by decide), n16 143 (by decide)]
      exact hM.2.2 x hx
    have hHiM : zHiM (zst (zst vM 137 0 0) 137 16 (t.length : Int)) t := by
      refine ⟨zst_eq, by omega, fun i hi => ?_⟩
      rw [n144]
      have := m3 i (by omega)
      rw [sn_lt hi] at this
      exact this
    rw [sn_len, if_pos (by omega : ((t.length + 1 : Nat) : Int) ≠ 0), if_pos (by omega : ((t.length + 1 : Nat) : Int) ≠ 0), zn_pos (by omega), zn_pos (by omega), e1, zck_pos (by omega), zck_pos (by omega), y7, zck_pos (by rw [y4]; omega), zck_pos (by rw [y4]; omega), y4, Int.toNat_natCast, zb_e, zb_e, zck_pos (by omega), zck_pos (by omega), zck_pos (by omega), zb_e, zck_pos (by omega), y5, y6, zb_e (zst (zst vM 137 0 0) 137 16 (t.length : Int)), zst_eq, zn_pos (by omega), zck_pos (by omega), n144, m4, zck_pos (by omega), zck_pos (by omega), zck_pos (by omega), zck_pos (by omega), zck_pos (by omega), m5, m6, m7]
    -- the end, both ways
    have fin : ∀ (u mm : zHp) (cd : List zP2), zCdC u (28 + (2 + 18 * w)) cd → (∀ a, a ≠ 28 + (2 + 18 * w) → a ≠ 28 + (2 + 18 * w) + 1 → a ≠ 28 + (2 + 18 * w) + 2 → u a = vC a) → zCdM mm (w : Int) cd → (∀ a, a ≠ 141 → a ≠ 142 → a ≠ 143 → mm a = zst (zst vM 137 0 0) 137 16 (t.length : Int) a) → (∀ (x : Nat) (cx : List zP2), x ≠ w → cx.length ≤ 60 → zCdM (zst (zst vM 137 0 0) 137 16 (t.length : Int)) (x : Int) cx → zCdM mm (x : Int) cx) → zCdOk R cd → zVld R t.reverse (zUp cs w cd) → ∃ vC' vM' r, fX11_undo_J101 u (t.length : Int) (w : Int) = some (vC', r) ∧ some (mm, mm 137 16) = some (vM', r) ∧ zInv vC' vM' := fun u mm cd f1 f2 f3 f4 f5 f6 f7 => by
      have n : ∀ a, a ≠ 29 + (4 + 18 * w) → a ≠ 102 → zst (zst u (29 + (4 + 18 * w)) 0 1) 102 4 (t.length : Int) a = u a := fun a b1 b2 => by
        funext j
        rw [zst_na b2, zst_na b1]
      refine ⟨zst (zst u (29 + (4 + 18 * w)) 0 1) 102 4 (t.length : Int), mm, (t.length : Int), ?_, ?_, ru, zUp cs w cd, t, R, hR, ?_, ⟨?_, ?_, zCdM_up f3 fun x hx hne => f5 x (cs x) hne (hok x hx).1 (hcm x hx)⟩, ?_, zCdOk_up hok f6, f7⟩
      · unfold fX11_undo_J101
        rw [zck_pos (by omega), Int.toNat_natCast, zb_e, zb_e, zb_e]
      · rw [f4 137 (by decide) (by decide) (by decide), zst_eq]
      · refine zIC_card hR hC hw ?_ ⟨zst_eq, by omega, fun i hi => ?_⟩ (fun a b1 b2 b3 b4 b5 => ?_) ?_ (fun j hj => ?_)
        · unfold zCdC
          rw [n _ (by omega) (by omega), n _ (by omega) (by omega), n _ (by omega) (by omega)]
          exact f1
        · rw [n 103 (by omega) (by omega), n 104 (by omega) (by omega), n 105 (by omega) (by omega), n 106 (by omega) (by omega), f2 103 (by omega) (by omega) (by omega), f2 104 (by omega) (by omega) (by omega), f2 105 (by omega) (by omega) (by omega), f2 106 (by omega) (by omega) (by omega)]
          have := y3 i (by omega)
          rw [sn_lt hi] at this
          exact this
        · rw [n a b4 (by omega), f2 a b1 b2 b3]
        · rw [zst_na (by omega), zst_eq]
        · rw [zst_na (by omega), zst_nj hj, f2 _ (by omega) (by omega) (by omega)]
      · rw [f4 139 (by decide) (by decide) (by decide), n16 139 (by decide)]
        exact hM.1
      · unfold zHiM
        rw [f4 137 (by decide) (by decide) (by decide), f4 144 (by decide) (by decide) (by decide)]
        exact hHiM
      · unfold zTp
        rw [f4 137 (by decide) (by decide) (by decide), f4 138 (by decide) (by decide) (by decide), n16j 2 (by decide), n16 138 (by decide), zst_nj (by decide), n 1 (by omega) (by omega), n 2 (by omega) (by omega), f2 1 (by omega) (by omega) (by omega), f2 2 (by omega) (by omega) (by omega)]
        exact hT
    rcases hcase with ⟨hc, p, hp, hpe, hrest⟩ | ⟨hc, hlt, hmo, p, hp, hrest⟩
    · rw [hc, if_neg n10, if_neg (by decide)]
      have hm : ((cs w).getD p zp0).1 = e.2.2.1 := by rw [hpe]
      have hfd : zFd (cs w) e.2.2.1 (p : Int) := Or.inr ⟨p, rfl, hp, hm⟩
      obtain ⟨u, g1, g2, g3⟩ := c_removeAt (hC.2.2.2.2.2 w hw).1 hp hl
      obtain ⟨mm, q1, q2, q3, q4⟩ := m_leaves (v := zst (zst vM 137 0 0) 137 16 (t.length : Int)) hw (hcm w hw) hokw.2.1 hp hm hl
      rw [c_find (hC.2.2.2.2.2 w hw).1 hokw.2.1 hfd hl, zcl_e, g1, zcl_e, q1, zcl_e]
      exact fin u mm _ g2 g3 q2 q3 q4 (zCdOk_del hokw hp) hrest
    · rw [hc, if_pos rfl, if_pos (by decide)]
      obtain ⟨u, g1, g2, g3⟩ := c_add (kd := e.2.2.2) (hC.2.2.2.2.2 w hw).1 hp hlt
      obtain ⟨mm, q1, q2, q3, q4⟩ := m_comes (v := zst (zst vM 137 0 0) 137 16 (t.length : Int)) (kd := e.2.2.2) hw (hcm w hw) hp hlt
      rw [g1, zcl_e, q1, zcl_e]
      exact fin u mm _ g2 g3 q2 q3 q4 (zCdOk_ins hokw hp hlt hmo) hrest
/-! feed -/
theorem z255 : ∀ i : Nat, i < 32 → Nat.testBit 255 i = decide (i < 8) := by decide
theorem zi2b_255 (y : Int) : zand (zi2b y) 255 = zand y 255 := by
  have e : zI (zand (zi2b y) 255) = zI (zand y 255) := by
    apply Int32.toBitVec_inj.mp
    show zB (zand (zi2b y) 255) = zB (zand y 255)
    rw [zB_and, zB_and, show (255 : Int) = ((255 : Nat) : Int) from rfl, zB_n]
    have e8 : zB (zi2b y) = ((zB y).signExtend 8).signExtend 32 := by
      unfold zB zi2b
      rw [zI_toInt, Int8.toBitVec_toInt32, Int32.toBitVec_toInt8]
    rw [e8]
    apply BitVec.eq_of_getLsbD_eq
    intro i hi
    rw [BitVec.getLsbD_and, BitVec.getLsbD_and, BitVec.getLsbD_ofNat, z255 i hi, BitVec.getLsbD_signExtend, BitVec.getLsbD_signExtend]
    by_cases c : i < 8
    · rw [if_pos c, decide_eq_true hi, decide_eq_true c, if_pos hi]
      simp
    · rw [decide_eq_false c]
      simp
  have e2 : ∀ z : Int, (zI (zand z 255)).toInt = zand z 255 := fun z => by
    unfold zand
    rw [zI_toInt]
  rw [← e2 (zi2b y), e, e2 y]
theorem tC_fr {v : zHp} {x n : Int} : ∀ a, a ≠ 1 → a ≠ 2 → tC v x n a = v a := fun a a1 a2 => by
  funext j
  unfold tC
  rw [zst_na a1, zst_na a2, zst_na a1, zst_na a2, zst_na a1, zst_na a2, zst_na a1, zst_na a2]
theorem tM_fr {v : zHp} {x n : Int} : (∀ a, a ≠ 137 → a ≠ 138 → tM v x n a = v a) ∧ ∀ j, j ≠ 2 → tM v x n 137 j = v 137 j := by
  refine ⟨fun a a1 a2 => ?_, fun j hj => ?_⟩
  · funext j
    unfold tM
    rw [zst_na a1, zst_na a2, zst_na a1, zst_na a2, zst_na a1, zst_na a2, zst_na a1, zst_na a2]
  · unfold tM
    rw [zst_nj hj, zst_na (by decide), zst_nj hj, zst_na (by decide), zst_nj hj, zst_na (by decide), zst_nj hj, zst_na (by decide)]
theorem tape_4 {vC vM : zHp} {n x : Int} (h : zTp vC vM) (hn : vM 137 2 = n) (h4 : n + 4 ≤ 400) : zTp (tC vC x n) (tM vM x n) := by
  obtain ⟨h1, h2, h3, h5⟩ := h
  rw [hn] at h1 h2 h3 h5
  unfold zTp
  rw [tM_size, tC_size]
  refine ⟨by omega, by omega, rfl, fun j j1 j2 => ?_⟩
  have rC : tC vC x n 2 j = if j = n + 1 + 1 + 1 then zand (zshr x 0) 255 else if j = n + 1 + 1 then zand (zshr x 8) 255 else if j = n + 1 then zand (zshr x 16) 255 else if j = n then zand (zshr x 24) 255 else vC 2 j := by
    unfold tC
    rw [zst_na (by decide), zst_if, zst_na (by decide), zst_if, zst_na (by decide), zst_if, zst_na (by decide), zst_if]
  have rM : tM vM x n 138 j = if j = n + 1 + 1 + 1 then zi2b (zshr x 0) else if j = n + 1 + 1 then zi2b (zshr x 8) else if j = n + 1 then zi2b (zshr x 16) else if j = n then zi2b (zshr x 24) else vM 138 j := by
    unfold tM
    rw [zst_na (by decide), zst_if, zst_na (by decide), zst_if, zst_na (by decide), zst_if, zst_na (by decide), zst_if]
  rw [rC, rM]
  repeat' split
  all_goals first | exact (zi2b_255 _).symm | exact h5 j j1 (by omega)
/-- feed, both sides -/
theorem a_feed {vC vM : zHp} (hI : zInv vC vM) (a b c d e : Int) : ∃ vC' vM' r, fX11_feed vC a b c d e = some (vC', r) ∧ fX12_feed vM a b c d e = some (vM', r) ∧ zInv vC' vM' := by
  obtain ⟨ru, cs, hs, R, hR, hC, hM, hT, hok, hV⟩ := hI
  have hT0 := hT
  obtain ⟨t1, t2, t3, t4⟩ := hT
  rcases c_feed (n := vM 137 2) t3 rfl t1 t2 a b c d e with ⟨f1, f2, f3⟩ | ⟨f1, f2, f3⟩
  · refine ⟨_, _, _, f2, f3, ru, cs, hs, R, hR, ?_, ?_, ?_, hok, hV⟩
    · have fr : ∀ a', a' ≠ 1 → a' ≠ 2 → fdC vC (vM 137 2) a b c d e a' = vC a' := fun a' a1 a2 => by
        unfold fdC
        rw [tC_fr a' a1 a2, tC_fr a' a1 a2, tC_fr a' a1 a2, tC_fr a' a1 a2, tC_fr a' a1 a2]
      obtain ⟨a1, a2, a3, a4, a5, a6⟩ := id hC
      refine ⟨?_, by rw [fr 0 (by decide) (by decide)]; exact a2, a3.of hR fun a b1 b2 => fr a (by omega) (by omega), ?_, a5.of fun a b1 b2 => fr a (by omega) (by omega), fun w hw => ⟨?_, (a6 w hw).2.of fun a b1 b2 => fr a (by omega) (by omega)⟩⟩
      · unfold zRV
        rw [fr 0 (by decide) (by decide)]
        exact a1
      · unfold zHiC
        rw [fr 102 (by decide) (by decide), fr 103 (by decide) (by decide), fr 104 (by decide) (by decide), fr 105 (by decide) (by decide), fr 106 (by decide) (by decide)]
        exact a4
      · unfold zCdC
        rw [fr _ (by omega) (by omega), fr _ (by omega) (by omega), fr _ (by omega) (by omega)]
        exact (a6 w hw).1
    · have fr : (∀ a', a' ≠ 137 → a' ≠ 138 → fdM (zst vM 137 0 0) (vM 137 2) a b c d e a' = vM a') ∧ ∀ j, j ≠ 2 → fdM (zst vM 137 0 0) (vM 137 2) a b c d e 137 j = zst vM 137 0 0 137 j := by
        unfold fdM
        refine ⟨fun a' a1 a2 => ?_, fun j hj => ?_⟩
        · rw [tM_fr.1 a' a1 a2, tM_fr.1 a' a1 a2, tM_fr.1 a' a1 a2, tM_fr.1 a' a1 a2, tM_fr.1 a' a1 a2]
          funext j
          exact zst_na a1
        · rw [tM_fr.2 j hj, tM_fr.2 j hj, tM_fr.2 j hj, tM_fr.2 j hj, tM_fr.2 j hj]
      refine ⟨by rw [fr.1 139 (by decide) (by decide)]; exact hM.1, ?_, fun w hw => ?_⟩
      · unfold zHiM
        rw [fr.2 16 (by decide), fr.1 144 (by decide) (by decide), zst_nj (by decide)]
        exact hM.2.1
      · unfold zCdM
        rw [fr.1 141 (by decide) (by decide), fr.1 142 (by decide) (by decide), fr.1 143 (by decide) (by decide)]
        exact hM.2.2 w hw
    · have h0 : zTp vC (zst vM 137 0 0) := hT0.mv rfl rfl (zMP.thr 0)
      have n0 : zst vM 137 0 0 137 2 = vM 137 2 := zst_nj (by decide)
      unfold fdC fdM
      exact tape_4 (tape_4 (tape_4 (tape_4 (tape_4 h0 n0 (by omega)) tM_size (by omega)) tM_size (by omega)) tM_size (by omega)) tM_size (by omega)
  · exact ⟨_, _, _, f2, f3, zInv_rd hR hM hT0 hok hV hC rfl rfl (zMP.thr 0)⟩
/-- count, both sides -/
theorem a_count {vC vM : zHp} (hI : zInv vC vM) (x : Int) : ∃ vC' vM' r, fX11_count vC x = some (vC', r) ∧ fX12_count vM x = some (vM', r) ∧ zInv vC' vM' := by
  obtain ⟨ru, cs, hs, R, hR, hC, hM, hT, hok, hV⟩ := hI
  obtain ⟨a1, a2, a3, a4, a5, a6⟩ := id hC
  obtain ⟨b1, b2, b3, b4⟩ := a3
  obtain ⟨d1, d2, d3, d4, d5, d6, d7⟩ := b3
  have e := hM.1
  obtain ⟨k1, k2, k3, k4, k5⟩ := b2
  obtain ⟨r, f1, f2⟩ := c_count (ru := ru) (vC := vC) (vM := vM) ⟨a1.1, by rcases a1.2 with h | h <;> rw [h] <;> rfl, by rw [e]; exact d1, by rw [e]; exact d2, by rw [e]; exact d3, by rw [e]; exact d4, by rw [e]; exact d5, by rw [e]; exact d6, by rw [e]; exact d7, by rw [e]; exact k1, by rw [e]; exact k2, by rw [e]; exact k3⟩ hT.2.2.1 (by rw [a4.1, hM.2.1.1]) x
  exact ⟨_, _, _, f1, f2, zInv_rd hR hM hT hok hV hC rfl rfl (zMP.thr 0)⟩
/-- moment, both sides -/
theorem a_moment {vC vM : zHp} (hI : zInv vC vM) (x y z : Int) : ∃ vC' vM' r, fX11_moment vC x y z = some (vC', r) ∧ fX12_moment vM x y z = some (vM', r) ∧ zInv vC' vM' := by
  obtain ⟨ru, cs, hs, R, hR, hC, hM, hT, hok, hV⟩ := hI
  obtain ⟨r, f1, f2⟩ := c_moment (vM := vM) hC.1 (by rw [hM.1]; exact hC.2.2.1.2.1) (by rw [hM.1]; exact hR.1) x y z
  exact ⟨_, _, _, f1, f2, zInv_rd hR hM hT hok hV hC rfl rfl (zMP.thr 0)⟩
/-- clock, both sides -/
theorem a_clock {vC vM : zHp} (hI : zInv vC vM) (x y : Int) : ∃ vC' vM' r, fX11_clock vC x y = some (vC', r) ∧ fX12_clock vM x y = some (vM', r) ∧ zInv vC' vM' := by
  obtain ⟨ru, cs, hs, R, hR, hC, hM, hT, hok, hV⟩ := hI
  obtain ⟨r, f1, f2⟩ := c_clock (vM := vM) hC.1 (by rw [hM.1]; exact hC.2.2.1.2.1) (by rw [hM.1]; exact hR.1) x y
  exact ⟨_, _, _, f1, f2, zInv_rd hR hM hT hok hV hC rfl rfl (zMP.thr 0)⟩
