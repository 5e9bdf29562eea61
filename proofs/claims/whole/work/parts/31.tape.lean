/-! PURE: the tape. My own text. -/
/-- one number on the class's tape -/
def tC (v : zHp) (x n : Int) : zHp := zst (zst (zst (zst (zst (zst (zst (zst v 2 n (zand (zshr x 24) 255)) 1 1 (n + 1)) 2 (n + 1) (zand (zshr x 16) 255)) 1 1 (n + 1 + 1)) 2 (n + 1 + 1) (zand (zshr x 8) 255)) 1 1 (n + 1 + 1 + 1)) 2 (n + 1 + 1 + 1) (zand (zshr x 0) 255)) 1 1 (n + 1 + 1 + 1 + 1)
def tM (v : zHp) (x n : Int) : zHp := zst (zst (zst (zst (zst (zst (zst (zst v 138 n (zi2b (zshr x 24))) 137 2 (n + 1)) 138 (n + 1) (zi2b (zshr x 16))) 137 2 (n + 1 + 1)) 138 (n + 1 + 1) (zi2b (zshr x 8))) 137 2 (n + 1 + 1 + 1)) 138 (n + 1 + 1 + 1) (zi2b (zshr x 0))) 137 2 (n + 1 + 1 + 1 + 1)
theorem put_step {fu : Nat} {v : zHp} {x s n : Int} (h : v 1 1 = n) (h0 : 0 ≤ n) (h4 : n < 400) (hs : 0 ≤ s) (hs2 : s ≤ 24) : fX9_put_L3 (fu + 1) v x s = fX9_put_L3 fu (zst (zst v 2 n (zand (zshr x s) 255)) 1 1 (n + 1)) x (s + (-8)) := by
  rw [fX9_put_L3.eq_2, if_neg (by omega), if_neg (by rw [h]; omega), zck_pos (by rw [h]; omega)]
  simp only [zb]
  rw [h, zst_na (by decide), h, zn_pos (by omega), zn_pos (by omega)]
theorem puts_step {fu : Nat} {v : zHp} {x s n : Int} (h : v 137 2 = n) (h0 : 0 ≤ n) (h4 : n < 400) (hs : 0 ≤ s) (hs2 : s ≤ 24) : fX12_puts_L3 (fu + 1) v x s = fX12_puts_L3 fu (zst (zst v 138 n (zi2b (zshr x s))) 137 2 (n + 1)) x (s + (-8)) := by
  rw [fX12_puts_L3.eq_2, if_neg (by omega), zck_pos (by rw [h]; omega)]
  simp only [zb]
  rw [h, zst_na (by decide), h, zn_pos (by omega), zn_pos (by omega)]
theorem put_all {v : zHp} {x n : Int} (h : v 1 1 = n) (h0 : 0 ≤ n) (h4 : n + 4 ≤ 400) : fX9_put v x = some (tC v x n, 0) := by
  unfold fX9_put
  show zl (fX9_put_L3 (999995 + 1 + 1 + 1 + 1 + 1) v x 24) _ = _
  rw [put_step h h0 (by omega) (by decide) (by decide), put_step zst_eq (by omega) (by omega) (by decide) (by decide), put_step zst_eq (by omega) (by omega) (by decide) (by decide), put_step zst_eq (by omega) (by omega) (by decide) (by decide), fX9_put_L3.eq_2, if_pos (by decide)]
  rfl
theorem puts_all {v : zHp} {x n : Int} (h : v 137 2 = n) (h0 : 0 ≤ n) (h4 : n + 4 ≤ 400) : fX12_puts v x = some (tM v x n, 0) := by
  unfold fX12_puts
  show zl (fX12_puts_L3 (999995 + 1 + 1 + 1 + 1 + 1) v x 24) _ = _
  rw [puts_step h h0 (by omega) (by decide) (by decide), puts_step zst_eq (by omega) (by omega) (by decide) (by decide), puts_step zst_eq (by omega) (by omega) (by decide) (by decide), puts_step zst_eq (by omega) (by omega) (by decide) (by decide), fX12_puts_L3.eq_2, if_pos (by decide)]
  rfl
theorem tC_size {v : zHp} {x n : Int} : tC v x n 1 1 = n + 4 := by
  unfold tC
  rw [zst_eq]
  omega
theorem tM_size {v : zHp} {x n : Int} : tM v x n 137 2 = n + 4 := by
  unfold tM
  rw [zst_eq]
  omega
def fdC (v : zHp) (n a b c d e : Int) : zHp := tC (tC (tC (tC (tC v a n) b (n + 4)) c (n + 4 + 4)) d (n + 4 + 4 + 4)) e (n + 4 + 4 + 4 + 4)
def fdM (v : zHp) (n a b c d e : Int) : zHp := tM (tM (tM (tM (tM v a n) b (n + 4)) c (n + 4 + 4)) d (n + 4 + 4 + 4)) e (n + 4 + 4 + 4 + 4)
/-- feed, both sides -/
theorem c_feed {vC vM : zHp} {n : Int} (hC : vC 1 1 = n) (hM : vM 137 2 = n) (h0 : 0 ≤ n) (h4 : n ≤ 400) (a b c d e : Int) :
    (n + 20 ≤ 400 ∧ fX11_feed vC a b c d e = some (fdC vC n a b c d e, n + 20) ∧ fX12_feed vM a b c d e = some (fdM (zst vM 137 0 0) n a b c d e, n + 20)) ∨
    (400 < n + 20 ∧ fX11_feed vC a b c d e = some (vC, -1) ∧ fX12_feed vM a b c d e = some (zst vM 137 0 0, -1)) := by
  have hM2 : zst vM 137 0 0 137 2 = n := by rw [zst_nj (by decide)]; exact hM
  unfold fX11_feed fX12_feed fX9_hasRoom
  simp only [zb]
  rw [hC, hM2, zn_pos (by omega), zn_pos (by omega)]
  by_cases h : n + 20 ≤ 400
  · refine Or.inl ⟨h, ?_, ?_⟩
    · rw [if_neg (by omega)]
      simp only [zcl]
      rw [if_pos (by decide), put_all hC h0 (by omega)]
      simp only []
      rw [put_all tC_size (by omega) (by omega)]
      simp only []
      rw [put_all tC_size (by omega) (by omega)]
      simp only []
      rw [put_all tC_size (by omega) (by omega)]
      simp only []
      rw [put_all tC_size (by omega) (by omega)]
      simp only []
      rw [tC_size]
      exact congrArg some (Prod.ext rfl (by show n + 4 + 4 + 4 + 4 + 4 = n + 20; omega))
    · rw [if_pos h, puts_all hM2 h0 (by omega)]
      simp only [zcl]
      rw [puts_all tM_size (by omega) (by omega)]
      simp only []
      rw [puts_all tM_size (by omega) (by omega)]
      simp only []
      rw [puts_all tM_size (by omega) (by omega)]
      simp only []
      rw [puts_all tM_size (by omega) (by omega)]
      simp only []
      rw [tM_size]
      exact congrArg some (Prod.ext rfl (by show n + 4 + 4 + 4 + 4 + 4 = n + 20; omega))
  · refine Or.inr ⟨by omega, ?_, ?_⟩
    · rw [if_pos (by omega)]
      rfl
    · rw [if_neg h]
