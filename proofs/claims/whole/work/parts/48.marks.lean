/-! PURE: two bits a mark, sixteen marks a number. My own text. -/
def yRd (x : Int) (k : Nat) : Int := zand (zshr x (k : Int)) 3
def ySt (x : Int) (k m : Nat) : Int := zor (zand x (zxor (zshl 3 (k : Int)) (-1))) (zshl (m : Int) (k : Int))
abbrev zB (x : Int) : BitVec 32 := (zI x).toBitVec
theorem t3_bit : ∀ t : Nat, Nat.testBit 3 t = decide (t < 2)
  | 0 => rfl
  | 1 => rfl
  | t + 2 => by
    rw [decide_eq_false (by omega)]
    exact Nat.testBit_lt_two_pow (Nat.lt_of_lt_of_le (by decide : 3 < 2 ^ 2) (Nat.pow_le_pow_right (by decide) (by omega)))
theorem m4_bit {m : Nat} (hm : m < 4) (t : Nat) (ht : 2 ≤ t) : m.testBit t = false := Nat.testBit_lt_two_pow (Nat.lt_of_lt_of_le (show m < 2 ^ 2 from hm) (Nat.pow_le_pow_right (by decide) ht))
theorem zB_shr {x : Int} {k : Nat} (hk : k < 32) : zB (zshr x (k : Int)) = (zB x).sshiftRight k := by
  unfold zB zshr
  rw [zI_toInt, zI_n]
  show (zI x).toBitVec.sshiftRight (((nI k &&& 31 : Int32).toBitVec.smod 32).toNat) = _
  rw [zsh_k k hk]
theorem zB_shl {x : Int} {k : Nat} (hk : k < 32) : zB (zshl x (k : Int)) = (zB x) <<< k := by
  unfold zB zshl
  rw [zI_toInt, zI_n]
  show (zI x).toBitVec <<< (((nI k &&& 31 : Int32).toBitVec.smod 32).toNat) = _
  rw [zsh_k k hk]
theorem zB_and {x y : Int} : zB (zand x y) = zB x &&& zB y := by
  unfold zB zand
  rw [zI_toInt]
  rfl
theorem zB_or {x y : Int} : zB (zor x y) = zB x ||| zB y := by
  unfold zB zor
  rw [zI_toInt]
  rfl
theorem zB_xor {x y : Int} : zB (zxor x y) = zB x ^^^ zB y := by
  unfold zB zxor
  rw [zI_toInt]
  rfl
theorem zB_n {m : Nat} : zB (m : Int) = BitVec.ofNat 32 m := by
  unfold zB
  rw [zI_n]
  rfl
theorem zB_m1 : zB (-1) = BitVec.allOnes 32 := by decide
/-- what a mark is, by its bits -/
theorem yRd_is {x : Int} {k m : Nat} (hk : k ≤ 30) (hm : m < 4) (h : ∀ i : Nat, i < 2 → (zB x).getLsbD (k + i) = m.testBit i) : yRd x k = (m : Int) := by
  have e : zI (yRd x k) = nI m := by
    apply Int32.toBitVec_inj.mp
    show zB (zand (zshr x (k : Int)) 3) = BitVec.ofNat 32 m
    rw [zB_and, zB_shr (by omega), show (3 : Int) = ((3 : Nat) : Int) from rfl, zB_n]
    apply BitVec.eq_of_getLsbD_eq
    intro i hi
    rw [BitVec.getLsbD_and, BitVec.getLsbD_sshiftRight, BitVec.getLsbD_ofNat, BitVec.getLsbD_ofNat, t3_bit]
    by_cases c : i < 2
    · rw [decide_eq_true c, decide_eq_true hi, decide_eq_false (by omega : ¬ 32 ≤ i), if_pos (by omega), h i c]
      simp
    · rw [decide_eq_false c, m4_bit hm i (by omega)]
      simp
  have e2 : (zI (yRd x k)).toInt = yRd x k := by
    unfold yRd zand
    rw [zI_toInt]
  rw [← e2, e, nI_toInt (by omega)]
theorem yRd_eq {x y : Int} {k : Nat} (hk : k ≤ 30) (h : ∀ i : Nat, i < 2 → (zB x).getLsbD (k + i) = (zB y).getLsbD (k + i)) : yRd x k = yRd y k := by
  have e : zI (yRd x k) = zI (yRd y k) := by
    apply Int32.toBitVec_inj.mp
    show zB (zand (zshr x (k : Int)) 3) = zB (zand (zshr y (k : Int)) 3)
    rw [zB_and, zB_and, zB_shr (by omega), zB_shr (by omega), show (3 : Int) = ((3 : Nat) : Int) from rfl, zB_n]
    apply BitVec.eq_of_getLsbD_eq
    intro i hi
    rw [BitVec.getLsbD_and, BitVec.getLsbD_and, BitVec.getLsbD_sshiftRight, BitVec.getLsbD_sshiftRight, BitVec.getLsbD_ofNat, t3_bit]
    by_cases c : i < 2
    · rw [if_pos (by omega), if_pos (by omega), h i c]
    · rw [decide_eq_false c]
      simp
  have e2 : ∀ z : Int, (zI (yRd z k)).toInt = yRd z k := fun z => by
    unfold yRd zand
    rw [zI_toInt]
  rw [← e2 x, e, e2 y]
theorem ySt_bit {x : Int} {k m j : Nat} (hk : k ≤ 30) (hj : j < 32) : (zB (ySt x k m)).getLsbD j = (((zB x).getLsbD j && !(!decide (j < k) && decide (j - k < 2))) || (!decide (j < k) && m.testBit (j - k))) := by
  unfold ySt
  rw [zB_or, zB_and, zB_xor, zB_shl (by omega), zB_shl (by omega), zB_m1, show (3 : Int) = ((3 : Nat) : Int) from rfl, zB_n, zB_n]
  rw [BitVec.getLsbD_or, BitVec.getLsbD_and, BitVec.getLsbD_xor, BitVec.getLsbD_shiftLeft, BitVec.getLsbD_shiftLeft, BitVec.getLsbD_ofNat, BitVec.getLsbD_ofNat, BitVec.getLsbD_allOnes, t3_bit, decide_eq_true hj, decide_eq_true (by omega : j - k < 32)]
  simp
theorem yRd_same {x : Int} {k m : Nat} (hk : k ≤ 30) (hm : m < 4) : yRd (ySt x k m) k = (m : Int) := by
  apply yRd_is hk hm
  intro i hi
  rw [ySt_bit hk (by omega), decide_eq_false (by omega : ¬ k + i < k), show k + i - k = i by omega, decide_eq_true hi]
  simp
theorem yRd_other {x : Int} {k k' m : Nat} (hk : k ≤ 30) (hk' : k' ≤ 30) (hd : k + 2 ≤ k' ∨ k' + 2 ≤ k) (hm : m < 4) : yRd (ySt x k m) k' = yRd x k' := by
  apply yRd_eq hk'
  intro i hi
  rw [ySt_bit hk (by omega)]
  rcases hd with hd | hd
  · rw [decide_eq_false (by omega : ¬ k' + i < k), decide_eq_false (by omega : ¬ k' + i - k < 2), m4_bit hm _ (by omega)]
    simp
  · rw [decide_eq_true (by omega : k' + i < k)]
    simp
/-- the mark of a quarter i, c of which count ahead -/
def yMk (v : zHp) (i c : Nat) : Int := yRd (v 136 (((i * 43 + c / 16 : Nat) : Int))) (c % 16 * 2)
theorem c_setMark {v : zHp} {i c m : Nat} (hi : i < 676) (hc : c < 676) (hm : m < 4) : ∃ v', fX0_setMark v (i : Int) (c : Int) (m : Int) = some (v', 0) ∧ yMk v' i c = (m : Int) ∧ (∀ i' c' : Nat, i' < 676 → c' < 676 → (i' ≠ i ∨ c' ≠ c) → yMk v' i' c' = yMk v i' c') ∧ ∀ a, a ≠ 136 → v' a = v a := by
  have e1 : (i : Int) * 43 + Int.tdiv (c : Int) 16 = ((i * 43 + c / 16 : Nat) : Int) := by
    rw [Int.tdiv_eq_ediv_of_nonneg (by omega)]
    omega
  have e2 : Int.tmod (c : Int) 16 * 2 = ((c % 16 * 2 : Nat) : Int) := by
    rw [Int.tmod_eq_emod_of_nonneg (by omega)]
    omega
  refine ⟨zst v 136 ((i * 43 + c / 16 : Nat) : Int) (ySt (v 136 ((i * 43 + c / 16 : Nat) : Int)) (c % 16 * 2) m), ?_, ?_, fun i' c' h1 h2 h3 => ?_, fun a ha => by funext j; exact zst_na ha⟩
  · unfold fX0_setMark
    rw [e1, e2, zn_pos (by omega), zn_pos (by omega), zck_pos (by omega), zck_pos (by omega), zb_e]
    rfl
  · unfold yMk
    rw [zst_eq]
    exact yRd_same (by omega) hm
  · unfold yMk
    by_cases d : i' * 43 + c' / 16 = i * 43 + c / 16
    · rw [show ((i' * 43 + c' / 16 : Nat) : Int) = ((i * 43 + c / 16 : Nat) : Int) by omega, zst_eq]
      exact yRd_other (by omega) (by omega) (by omega) hm
    · rw [zst_nj (by omega)]
theorem c_markAt {v : zHp} {i c : Nat} (hi : i < 676) (hc : c < 676) : fX0_markAt v (i : Int) (c : Int) = some (v, yMk v i c) := by
  have e1 : (i : Int) * 43 + Int.tdiv (c : Int) 16 = ((i * 43 + c / 16 : Nat) : Int) := by
    rw [Int.tdiv_eq_ediv_of_nonneg (by omega)]
    omega
  have e2 : Int.tmod (c : Int) 16 * 2 = ((c % 16 * 2 : Nat) : Int) := by
    rw [Int.tmod_eq_emod_of_nonneg (by omega)]
    omega
  unfold fX0_markAt
  rw [e1, e2, zck_pos (by omega)]
  rfl
