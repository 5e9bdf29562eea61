/-! PURE: the tape. My own text. -/
/-- one number on the class's tape -/
def tC (v : zHp) (x n : Int) : zHp := zst (zst (zst (zst (zst (zst (zst (zst v 2 n (zand (zshr x 24) 255)) 1 1 (n + 1)) 2 (n + 1) (zand (zshr x 16) 255)) 1 1 (n + 1 + 1)) 2 (n + 1 + 1) (zand (zshr x 8) 255)) 1 1 (n + 1 + 1 + 1)) 2 (n + 1 + 1 + 1) (zand (zshr x 0) 255)) 1 1 (n + 1 + 1 + 1 + 1)
def tM (v : zHp) (x n : Int) : zHp := zst (zst (zst (zst (zst (zst (zst (zst v 138 n (zi2b (zshr x 24))) 137 2 (n + 1)) 138 (n + 1) (zi2b (zshr x 16))) 137 2 (n + 1 + 1)) 138 (n + 1 + 1) (zi2b (zshr x 8))) 137 2 (n + 1 + 1 + 1)) 138 (n + 1 + 1 + 1) (zi2b (zshr x 0))) 137 2 (n + 1 + 1 + 1 + 1)
theorem put_step {fu : Nat} {v : zHp} {x s n : Int} (h : v 1 1 = n) (h0 : 0 ≤ n) (h4 : n < 400) (hs : 0 ≤ s) (hs2 : s ≤ 24) : fX9_put_L3 (fu + 1) v x s = fX9_put_L3 fu (zst (zst v 2 n (zand (zshr x s) 255)) 1 1 (n + 1)) x (s + (-8)) := by
  rw [fX9_put_L3.eq_2, if_neg (by omega), if_neg (by rw [h]; omega), zck_pos (by rw [h]; omega)]
  simp only [zb]
  rw [h, zst_na (by decide), h, zn_pos (by omega), zn_pos (by omega)]
theorem puts_step {fu : Nat} {v : zHp} {x s n : Int} (h : v 137 2 = n) (h0 : 0 ≤ n) (h4 : n < 400) (hs : 0 ≤ s) (hs2 : s ≤ 24) : fX12_puts_L3 (fu + 1) v x s = fX12_puts_L3 fu (zst (zst v 138 n (zi2b (zshr x s))) 137 2 (n + 1)) x (s + (-8)) := by
  rw [fX12_puts_L3.eq_2, if_neg (by omega), zck_pos (by rw [h]; omega)]
  simp only [zb]
  rw [h, zst_na (by decide), h, zn_pos (by omega), zn_pos (by omega)]
theorem put_all {v : zHp} {x n : Int} (h : v 1 1 = n) (h0 : 0 ≤ n) (h4 : n + 4 ≤ 400) : fX9_put v x = some (tC v x n, 0) := by
  unfold fX9_put
  show zl (fX9_put_L3 (999995 + 1 + 1 + 1 + 1 + 1) v x 24) _ = _
  rw [put_step h h0 (by omega) (by decide) (by decide), put_step zst_eq (by omega) (by omega) (by decide) (by decide), put_step zst_eq (by omega) (by omega) (by decide) (by decide), put_step zst_eq (by omega) (by omega) (by decide) (by decide), fX9_put_L3.eq_2, if_pos (by decide)]
  rfl
theorem puts_all {v : zHp} {x n : Int} (h : v 137 2 = n) (h0 : 0 ≤ n) (h4 : n + 4 ≤ 400) : fX12_puts v x = some (tM v x n, 0) := by
  unfold fX12_puts
  show zl (fX12_puts_L3 (999995 + 1 + 1 + 1 + 1 + 1) v x 24) _ = _
  rw [puts_step h h0 (by omega) (by decide) (by decide), puts_step zst_eq (by omega) (by omega) (by decide) (by decide), puts_step zst_eq (by omega) (by omega) (by decide) (by decide), puts_step zst_eq (by omega) (by omega) (by decide) (by decide), fX12_puts_L3.eq_2, if_pos (by decide)]
  rfl
