/-! PURE: what follows a call; numbers bit by bit; loops. My own text. -/
theorem zb_e {β α : Type} (x : β) (k : β → Option α) : zb x k = k x := rfl
theorem zcl_e {α : Type} (v : zHp) (r : Int) (k : zHp → Int → Option α) : zcl (some (v, r)) k = k v r := rfl
theorem zl_e {β α : Type} (v : zHp) (r : β) (k : zHp → β → Option α) : zl (some (v, r)) k = k v r := rfl
theorem zlf_i {β : Type} (q : zHp × Int) (k : zHp → β → Option (zHp × Int)) : zlf (some (.inl q)) k = some q := rfl
theorem zlf_e {β : Type} (v : zHp) (r : β) (k : zHp → β → Option (zHp × Int)) : zlf (some (.inr (v, r))) k = k v r := rfl
theorem zlq_i {β γ : Type} (q : zHp × Int) (k : zHp → β → Option ((zHp × Int) ⊕ γ)) : zlq (some (.inl q)) k = some (.inl q) := rfl
theorem zlq_e {β γ : Type} (v : zHp) (r : β) (k : zHp → β → Option ((zHp × Int) ⊕ γ)) : zlq (some (.inr (v, r))) k = k v r := rfl
theorem zst_c {v : zHp} {a a' : Nat} {j x j' : Int} : zst v a j x a' j' = if a' = a ∧ j' = j then x else v a' j' := rfl
theorem zI_n (n : Nat) : zI (n : Int) = nI n := Int32.ofInt_eq_ofNat
theorem zand_n {m n : Nat} (hm : m < 2 ^ 31) : zand (m : Int) (n : Int) = ((m &&& n : Nat) : Int) := by
  unfold zand
  rw [zI_n, zI_n]
  have h : nI m &&& nI n = nI (m &&& n) := by
    apply Int32.toBitVec_inj.mp
    show BitVec.ofNat 32 m &&& BitVec.ofNat 32 n = BitVec.ofNat 32 (m &&& n)
    rw [BitVec.ofNat_and]
  rw [h, nI_toInt (Nat.lt_of_le_of_lt Nat.and_le_left hm)]
theorem zand_nr {m n : Nat} (hn : n < 2 ^ 31) : zand (m : Int) (n : Int) = ((m &&& n : Nat) : Int) := by
  unfold zand
  rw [zI_n, zI_n]
  have h : nI m &&& nI n = nI (m &&& n) := by
    apply Int32.toBitVec_inj.mp
    show BitVec.ofNat 32 m &&& BitVec.ofNat 32 n = BitVec.ofNat 32 (m &&& n)
    rw [BitVec.ofNat_and]
  rw [h, nI_toInt (Nat.lt_of_le_of_lt Nat.and_le_right hn)]
theorem zor_n {m n : Nat} (hm : m < 2 ^ 31) (hn : n < 2 ^ 31) : zor (m : Int) (n : Int) = ((m ||| n : Nat) : Int) := by
  unfold zor
  rw [zI_n, zI_n]
  have h : nI m ||| nI n = nI (m ||| n) := by
    apply Int32.toBitVec_inj.mp
    show BitVec.ofNat 32 m ||| BitVec.ofNat 32 n = BitVec.ofNat 32 (m ||| n)
    rw [BitVec.ofNat_or]
  rw [h, nI_toInt (Nat.or_lt_two_pow hm hn)]
theorem zsh_k : ∀ k : Nat, k < 32 → ((nI k &&& 31 : Int32).toBitVec.smod 32).toNat = k := by decide
theorem zshl_n {m k : Nat} (hk : k < 32) (h : m * 2 ^ k < 2 ^ 31) : zshl (m : Int) (k : Int) = ((m * 2 ^ k : Nat) : Int) := by
  unfold zshl
  rw [zI_n, zI_n, pk_shlN _ k (zsh_k k hk) (Nat.lt_trans h (by decide)), nI_toInt h]
theorem zshr_n {m k : Nat} (hk : k < 32) (hm : m < 2 ^ 31) : zshr (m : Int) (k : Int) = ((m / 2 ^ k : Nat) : Int) := by
  unfold zshr
  rw [zI_n, zI_n, pk_shrN hm _ k (zsh_k k hk), nI_toInt (Nat.lt_of_le_of_lt (Nat.div_le_self _ _) hm)]
/-- one bit -/
theorem zbit_n {m k : Nat} (hk : k < 32) (hm : m < 2 ^ 31) : zand (zshr (m : Int) (k : Int)) 1 = if m.testBit k then 1 else 0 := by
  rw [zshr_n hk hm]
  rw [show (1 : Int) = ((1 : Nat) : Int) from rfl, zand_nr (by decide), Nat.and_one_is_mod, Nat.testBit_eq_decide_div_mod_eq]
  by_cases h : m / 2 ^ k % 2 = 1
  · rw [h]
    simp
  · have h0 : m / 2 ^ k % 2 = 0 := by omega
    rw [h0]
    simp
/-- the places at which something holds, as bits -/
def zmk (P : Nat → Bool) : Nat → Nat
  | 0 => 0
  | n + 1 => if P n then zmk P n ||| 2 ^ n else zmk P n
theorem zmk_lt {P : Nat → Bool} : ∀ n : Nat, zmk P n < 2 ^ n
  | 0 => Nat.one_pos
  | n + 1 => by
    have h := zmk_lt (P := P) n
    have h2 : 2 ^ n < 2 ^ (n + 1) := Nat.pow_lt_pow_right (by decide) (Nat.lt_succ_self n)
    unfold zmk
    split
    · exact Nat.or_lt_two_pow (Nat.lt_trans h h2) h2
    · exact Nat.lt_trans h h2
theorem zmk_bit {P : Nat → Bool} : ∀ (n i : Nat), (zmk P n).testBit i = (decide (i < n) && P i)
  | 0, i => by simp [zmk]
  | n + 1, i => by
    have h := zmk_bit (P := P) n i
    unfold zmk
    by_cases hi : i = n
    · subst hi
      split
      · rename_i hp
        rw [Nat.testBit_or, h, Nat.testBit_two_pow_self, hp]
        simp
      · rename_i hp
        rw [h]
        simp [hp]
    · have e : decide (i < n + 1) = decide (i < n) := by
        by_cases h1 : i < n
        · rw [decide_eq_true h1, decide_eq_true (by omega : i < n + 1)]
        · rw [decide_eq_false h1, decide_eq_false (by omega : ¬ i < n + 1)]
      rw [e]
      split
      · rw [Nat.testBit_or, h, Nat.testBit_two_pow_of_ne (Ne.symm hi)]
        simp
      · exact h
theorem zmk_31 {P : Nat → Bool} {n : Nat} (h : n ≤ 30) : zmk P n < 2 ^ 31 := Nat.lt_of_lt_of_le (zmk_lt n) (Nat.pow_le_pow_right (by decide) (by omega))
theorem zmk_cong {P Q : Nat → Bool} : ∀ {n : Nat}, (∀ i, i < n → P i = Q i) → zmk P n = zmk Q n
  | 0, _ => rfl
  | n + 1, h => by
    unfold zmk
    rw [h n (Nat.lt_succ_self n), zmk_cong (fun i hi => h i (Nat.lt_succ_of_lt hi))]
theorem zmk_step {P : Nat → Bool} {n : Nat} (h : n ≤ 29) (hp : P n = true) : zor ((zmk P n : Nat) : Int) (zshl 1 (n : Int)) = ((zmk P (n + 1) : Nat) : Int) := by
  rw [show (1 : Int) = ((1 : Nat) : Int) from rfl, zshl_n (by omega) (by rw [Nat.one_mul]; exact Nat.pow_lt_pow_right (by decide) (by omega)), Nat.one_mul, zor_n (zmk_31 (by omega)) (Nat.pow_lt_pow_right (by decide) (by omega))]
  show _ = (((if P n then zmk P n ||| 2 ^ n else zmk P n) : Nat) : Int)
  rw [if_pos hp]
theorem zmk_skip {P : Nat → Bool} {n : Nat} (hp : P n = false) : zmk P (n + 1) = zmk P n := by
  show (if P n then zmk P n ||| 2 ^ n else zmk P n) = _
  rw [hp]
  rfl
/-- a loop, by what holds in it and by what becomes less -/
theorem zwh {σ ρ : Type} (L : Nat → σ → Option ρ) (I : σ → Prop) (μ : σ → Nat) (Q : ρ → Prop) (hs : ∀ fu s, I s → (∃ r, L (fu + 1) s = some r ∧ Q r) ∨ ∃ s', I s' ∧ μ s' < μ s ∧ L (fu + 1) s = L fu s') : ∀ (fu : Nat) (s : σ), μ s < fu → I s → ∃ r, L fu s = some r ∧ Q r := by
  intro fu
  induction fu with
  | zero => intro s h _; omega
  | succ fu ih =>
    intro s h hI
    rcases hs fu s hI with h1 | ⟨s', h1, h2, h3⟩
    · exact h1
    · rw [h3]
      exact ih s' (by omega) h1
/-- a loop over 0, 1, 2 .. up to n -/
theorem zfor {σ ρ : Type} (L : Nat → Nat → σ → Option ρ) (n : Nat) (I : Nat → σ → Prop) (Q : ρ → Prop) (hs : ∀ fu p s, p < n → I p s → ∃ s', I (p + 1) s' ∧ L (fu + 1) p s = L fu (p + 1) s') (he : ∀ fu s, I n s → ∃ r, L (fu + 1) n s = some r ∧ Q r) : ∀ (m fu p : Nat) (s : σ), p + m = n → m < fu → I p s → ∃ r, L fu p s = some r ∧ Q r := by
  intro m
  induction m with
  | zero =>
    intro fu p s h1 h2 h3
    obtain ⟨k, rfl⟩ : ∃ k, fu = k + 1 := ⟨fu - 1, by omega⟩
    have hp : p = n := by omega
    subst hp
    exact he k s h3
  | succ m ih =>
    intro fu p s h1 h2 h3
    obtain ⟨k, rfl⟩ : ∃ k, fu = k + 1 := ⟨fu - 1, by omega⟩
    obtain ⟨s', h4, h5⟩ := hs k p s (by omega) h3
    rw [h5]
    exact ih k (p + 1) s' (by omega) (by omega) h4
theorem zFU_lt {m : Nat} (h : m < 1000000) : m < zFU := h
