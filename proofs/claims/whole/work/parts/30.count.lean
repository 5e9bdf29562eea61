/-! PURE: the counts. My own text. -/
/-- the rules and the small counts on both sides -/
def zRu (ru : Nat) (vC vM : zHp) : Prop := vC 0 2 = (ru : Int) ∧ zK ru = (7, 10) ∧ vC ru 2 = vM 139 10 ∧ vC ru 4 = vM 139 9 ∧ vC ru 5 = vM 139 0 ∧ vC ru 6 = vM 139 1 ∧ vC ru 7 = vM 139 2 ∧ vC ru 8 = vM 139 3 ∧ vC ru 9 = vM 139 4 ∧ vC (ru + 1) 0 = vM 139 5 ∧ vC (ru + 1) 1 = vM 139 6 ∧ vC (ru + 1) 2 = vM 139 7
theorem zst_na {v : zHp} {a a' : Nat} {j x j' : Int} (h : a' ≠ a) : zst v a j x a' j' = v a' j' := by
  unfold zst
  rw [if_neg (fun q => h q.1)]
theorem zst_nj {v : zHp} {a a' : Nat} {j x j' : Int} (h : j' ≠ j) : zst v a j x a' j' = v a' j' := by
  unfold zst
  rw [if_neg (fun q => h q.2)]
theorem zst_eq {v : zHp} {a : Nat} {j x : Int} : zst v a j x a j = x := by
  unfold zst
  rw [if_pos ⟨rfl, rfl⟩]
theorem c_count {ru : Nat} {vC vM : zHp} (h : zRu ru vC vM) (h1 : vC 1 1 = vM 137 2) (h2 : vC 102 4 = vM 137 16) (x : Int) : ∃ r, fX11_count vC x = some (vC, r) ∧ fX12_count vM x = some (zst vM 137 0 0, r) := by
  obtain ⟨g0, gk, g1, g2, g3, g4, g5, g6, g7, g8, g9, g10⟩ := h
  have hn : (vC 0 2).toNat = ru := by rw [g0]; rfl
  have hp : 0 ≤ vC 0 2 := by rw [g0]; exact Int.natCast_nonneg _
  have e139 : ∀ j, zst vM 137 0 0 139 j = vM 139 j := fun j => zst_na (by decide)
  have e2 : zst vM 137 0 0 137 2 = vM 137 2 := zst_nj (by decide)
  have e16 : zst vM 137 0 0 137 16 = vM 137 16 := zst_nj (by decide)
  unfold fX11_count fX12_count
  simp only [zb, zck, hn, gk, hp, e139, e2, e16, g1, g2, g3, g4, g5, g6, g7, g8, g9, g10, h1, h2]
  by_cases c0 : x = 0
  · subst c0; exact ⟨_, rfl, rfl⟩
  by_cases c1 : x = 1
  · subst c1; exact ⟨_, rfl, rfl⟩
  by_cases c2 : x = 2
  · subst c2; exact ⟨_, rfl, rfl⟩
  by_cases c3 : x = 3
  · subst c3; exact ⟨_, rfl, rfl⟩
  by_cases c4 : x = 4
  · subst c4; exact ⟨_, rfl, rfl⟩
  by_cases c5 : x = 5
  · subst c5; exact ⟨_, rfl, rfl⟩
  by_cases c6 : x = 6
  · subst c6; exact ⟨_, rfl, rfl⟩
  by_cases c7 : x = 7
  · subst c7; exact ⟨_, rfl, rfl⟩
  by_cases c8 : x = 8
  · subst c8; exact ⟨_, rfl, rfl⟩
  by_cases c9 : x = 9
  · subst c9; exact ⟨_, rfl, rfl⟩
  by_cases c10 : x = 10
  · subst c10; exact ⟨_, rfl, rfl⟩
  by_cases c11 : x = 11
  · subst c11; exact ⟨_, rfl, rfl⟩
  simp only [if_neg c0, if_neg c1, if_neg c2, if_neg c3, if_neg c4, if_neg c5, if_neg c6, if_neg c7, if_neg c8, if_neg c9, if_neg c10, if_neg c11]
  exact ⟨_, rfl, rfl⟩
