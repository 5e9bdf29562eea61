/-! PURE: what the two constructors make has what holds between calls. My own text. -/
theorem i_R : ∀ k : Nat, k < 51 → zvM 139 (k : Int) = xDf (k : Int) := by decide +kernel
theorem i_ru : zvC 0 2 = 4 ∧ zvC 0 3 = 16 ∧ zvC 1 1 = 0 ∧ zvC 102 4 = 0 ∧ zvM 137 2 = 0 ∧ zvM 137 16 = 0 := by decide +kernel
theorem i_ck : zvC (4 + 1) 0 = -1 ∧ zvC (4 + 1) 1 = -1 ∧ zvC (4 + 1) 2 = -1 ∧ zvC (4 + 1) 3 = -1500 ∧ zvC (4 + 1) 4 = 0 := by decide +kernel
theorem i_rl : zvC 4 2 = 0 ∧ zvC 4 4 = 0 ∧ zvC 4 5 = 7 ∧ zvC 4 6 = 0 ∧ zvC 4 7 = 0 ∧ zvC 4 8 = 16 ∧ zvC 4 9 = 100 := by decide +kernel
theorem i_cd : ∀ w : Nat, w < 4 → zvC (28 + (2 + 18 * w)) 2 = 0 ∧ zvM 141 (w : Int) = 0 := by decide +kernel
def iSh (a0 : Nat) : Bool := decide (zvC a0 0 = 1) && decide (zvC a0 9 = ((a0 + 8 : Nat) : Int)) && decide (zvC a0 10 = ((a0 + 11 : Nat) : Int)) && decide (zvC (a0 + 8) 2 = 0) && decide (zvC a0 12 = 0) && decide (zvC a0 13 = 0)
theorem i_sh : ∀ w : Nat, w < 4 → iSh (29 + (4 + 18 * w)) = true := by decide +kernel
theorem i_st : iSh 110 = true := by decide +kernel
theorem iSh_I {R : Int → Int} {a0 : Nat} (h : iSh a0 = true) : zShI R zvC a0 ∧ zvC a0 0 = 1 := by
  unfold iSh at h
  rw [Bool.and_eq_true, Bool.and_eq_true, Bool.and_eq_true, Bool.and_eq_true, Bool.and_eq_true, decide_eq_true_iff, decide_eq_true_iff, decide_eq_true_iff, decide_eq_true_iff, decide_eq_true_iff, decide_eq_true_iff] at h
  obtain ⟨⟨⟨⟨⟨h0, h1⟩, h2⟩, h3⟩, h4⟩, h5⟩ := h
  refine ⟨⟨a0 + 8, a0 + 11, 0, 0, [], ⟨h1, h2, Or.inl ⟨rfl, rfl⟩⟩, ⟨h3, fun i hi => absurd hi (Nat.not_lt_zero _)⟩, ⟨⟨fun i hi => absurd hi (Nat.not_lt_zero _), fun i j _ hj => absurd hj (Nat.not_lt_zero _)⟩, Nat.zero_le _⟩, h4, by decide, h5, fun w hw hb => ?_⟩, h0⟩
  rw [Nat.zero_testBit] at hb
  exact absurd hb (by decide)
theorem i_inv : zInv zvC zvM := by
  obtain ⟨r1, r2, r3, r4, r5, r6⟩ := i_ru
  have hE : zE51 xDf (zvM 139) := fun k k0 k1 => by
    have := i_R k.toNat (by omega)
    rw [show ((k.toNat : Nat) : Int) = k by omega] at this
    exact this
  refine ⟨4, fun _ => [], [], zvM 139, hE.wr xDf_wr, ⟨⟨r1, Or.inl rfl⟩, r2, hE.rc xDf_wr (xDf_rc (Or.inl rfl) i_ck i_rl), ⟨r4, Nat.zero_le _, fun t ht => absurd ht (Nat.not_lt_zero _)⟩, (iSh_I i_st).1, fun w hw => ⟨⟨(i_cd w hw).1, fun i hi => absurd hi (Nat.not_lt_zero _)⟩, (iSh_I (i_sh w hw)).1, fun h0 => ?_⟩⟩, ⟨rfl, ⟨r6, Nat.zero_le _, fun t ht => absurd ht (Nat.not_lt_zero _)⟩, fun w hw => ⟨(i_cd w hw).2, fun i hi => absurd hi (Nat.not_lt_zero _)⟩⟩, ⟨?_, ?_, ?_, fun j j0 j1 => ?_⟩, fun w hw => zCdOk.nil, trivial⟩
  · rw [(iSh_I (R := zvM 139) (i_sh w hw)).2] at h0
    exact absurd h0 (by decide)
  · rw [r5]; decide
  · rw [r5]; decide
  · rw [r3, r5]
  · rw [r5] at j1
    omega
