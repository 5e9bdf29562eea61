/-! PURE: the punches paired, both sides. My own text. -/
/-- the class's rules -/
def zRC (ru : Nat) (v : zHp) (R : Int → Int) : Prop := (ru = 4 ∨ ru = 16) ∧ zCK (ru + 1) v R ∧ (v ru 2 = R 10 ∧ v ru 4 = R 9 ∧ v ru 5 = R 0 ∧ v ru 6 = R 1 ∧ v ru 7 = R 2 ∧ v ru 8 = R 3 ∧ v ru 9 = R 4) ∧ (∀ p : Nat, (p : Int) < R 10 → ∀ f : Int, 0 ≤ f → f ≤ 4 → v (ru + 2 + (2 + 1 * p)) f = R (11 + 5 * (p : Int) + f)) ∧ ∀ d : Int, 0 ≤ d → d ≤ 27 → ((∃ i : Int, 0 ≤ i ∧ i < R 9 ∧ v (ru + 3) i = d) ↔ zand (zshr (R 8) d) 1 = 1)
theorem zRC.of {ru : Nat} {v v' : zHp} {R : Int → Int} (h : zRC ru v R) (hR : zWR R) (hv : ∀ a : Nat, 4 ≤ a → a ≤ 27 → v' a = v a) : zRC ru v' R := by
  obtain ⟨h1, h2, h3, h4, h5⟩ := h
  have hb := hR.2.2.1
  unfold zCK at h2
  refine ⟨h1, ?_, ?_, fun p hp f a b => ?_, fun d a b => ?_⟩
  · unfold zCK
    rw [hv (ru + 1) (by omega) (by omega)]
    exact h2
  · rw [hv ru (by omega) (by omega)]
    exact h3
  · rw [hv _ (by omega) (by omega)]
    exact h4 p hp f a b
  · rw [hv (ru + 3) (by omega) (by omega)]
    exact h5 d a b
/-- a sheet's cell a0, a card's cell c -/
def zSC (a0 c : Nat) : Prop := 28 ≤ a0 ∧ a0 ≤ 110 ∧ 28 ≤ c ∧ c ≤ 107 ∧ (c + 2 < a0 ∨ a0 + 14 < c) ∧ zK (a0 + 8) = (4, 3) ∧ zK (a0 + 11) = (4, 3)
def zRq (R : Int → Int) (m : Int) : Int := m / 15 + (if m % 15 ≤ R 0 then 0 else 1)
abbrev zCl (R : Int → Int) (cd : List zP2) (k : Nat) (o : Int) : Prop := o ≠ -1 ∧ (cd.getD k zp0).2 ≠ 0 ∧ (cd.getD k zp0).1 - (cd.getD o.toNat zp0).1 ≤ 60 * R 3
/-- the one that is open behind k punches; the spans; how a punch is paired -/
def zOp (R : Int → Int) (cd : List zP2) : Nat → Int
  | 0 => -1
  | k + 1 => if zCl R cd k (zOp R cd k) then -1 else if (cd.getD k zp0).2 = 1 then -1 else (k : Int)
def zSp (R : Int → Int) (cd : List zP2) : Nat → List zP2
  | 0 => []
  | k + 1 => if zCl R cd k (zOp R cd k) then zSp R cd k ++ [(zRq R (cd.getD (zOp R cd k).toNat zp0).1, zRq R (cd.getD k zp0).1)] else zSp R cd k
def zRo (R : Int → Int) (cd : List zP2) : Nat → Nat → Int
  | 0, _ => 2
  | k + 1, j => if zCl R cd k (zOp R cd k) then (if j = k then 1 else if (j : Int) = zOp R cd k then 0 else zRo R cd k j) else if j = k then 2 else zRo R cd k j
theorem zOp_b {R : Int → Int} {cd : List zP2} : ∀ k : Nat, zOp R cd k = -1 ∨ (0 ≤ zOp R cd k ∧ zOp R cd k < (k : Int))
  | 0 => Or.inl rfl
  | k + 1 => by
    unfold zOp
    split
    · exact Or.inl rfl
    · split
      · exact Or.inl rfl
      · exact Or.inr ⟨by omega, by omega⟩
theorem zSp_len {R : Int → Int} {cd : List zP2} : ∀ k : Nat, 2 * (zSp R cd k).length + (if zOp R cd k = -1 then 0 else 1) ≤ k
  | 0 => by simp [zSp, zOp]
  | k + 1 => by
    have ih := zSp_len (R := R) (cd := cd) k
    by_cases h : zCl R cd k (zOp R cd k)
    · have e1 : zSp R cd (k + 1) = zSp R cd k ++ [(zRq R (cd.getD (zOp R cd k).toNat zp0).1, zRq R (cd.getD k zp0).1)] := if_pos h
      have e2 : zOp R cd (k + 1) = -1 := if_pos h
      rw [e1, e2, if_pos rfl, sn_len]
      rw [if_neg h.1] at ih
      omega
    · have e1 : zSp R cd (k + 1) = zSp R cd k := if_neg h
      rw [e1]
      have : (if zOp R cd (k + 1) = -1 then 0 else 1) ≤ 1 := by split <;> omega
      have : 0 ≤ (if zOp R cd k = -1 then 0 else 1) := Nat.zero_le _
      omega
theorem zRq_mono {R : Int → Int} {a b : Int} (h : a ≤ b) : zRq R a ≤ zRq R b := by
  unfold zRq
  split <;> split <;> omega
theorem zRq_b {R : Int → Int} (h0 : 0 ≤ R 0 ∧ R 0 ≤ 14) {m Q : Int} (h : 0 ≤ m ∧ m < 15 * Q) : 0 ≤ zRq R m ∧ zRq R m ≤ Q := by
  unfold zRq
  split <;> omega
/-- spans are in order, one behind the other -/
theorem zSp_ok {R : Int → Int} (h0 : 0 ≤ R 0 ∧ R 0 ≤ 14) {cd : List zP2} (hc : zCdOk R cd) : ∀ k : Nat, k ≤ cd.length → (∀ i : Nat, i < (zSp R cd k).length → 0 ≤ ((zSp R cd k).getD i zp0).1 ∧ ((zSp R cd k).getD i zp0).1 ≤ ((zSp R cd k).getD i zp0).2 ∧ ((zSp R cd k).getD i zp0).2 ≤ zQA R 28) ∧ (∀ i j : Nat, i < j → j < (zSp R cd k).length → ((zSp R cd k).getD i zp0).2 ≤ ((zSp R cd k).getD j zp0).1) ∧ (∀ i j : Nat, i < (zSp R cd k).length → k ≤ j → j < cd.length → ((zSp R cd k).getD i zp0).2 ≤ zRq R (cd.getD j zp0).1) ∧ (zOp R cd k ≠ -1 → ∀ i : Nat, i < (zSp R cd k).length → ((zSp R cd k).getD i zp0).2 ≤ zRq R (cd.getD (zOp R cd k).toNat zp0).1)
  | 0, _ => ⟨fun i h => absurd h (Nat.not_lt_zero _), fun i j _ h => absurd h (Nat.not_lt_zero _), fun i j h => absurd h (Nat.not_lt_zero _), fun _ i h => absurd h (Nat.not_lt_zero _)⟩
  | k + 1, hk => by
    obtain ⟨h1, h2, h3, h4⟩ := zSp_ok h0 hc k (by omega)
    have ho := zOp_b (R := R) (cd := cd) k
    obtain ⟨c1, c2, c3⟩ := hc
    by_cases h : zCl R cd k (zOp R cd k)
    · have e1 : zSp R cd (k + 1) = zSp R cd k ++ [(zRq R (cd.getD (zOp R cd k).toNat zp0).1, zRq R (cd.getD k zp0).1)] := if_pos h
      have e2 : zOp R cd (k + 1) = -1 := if_pos h
      have ho2 : (zOp R cd k).toNat < k := by
        have := h.1
        omega
      have m1 := c3 (zOp R cd k).toNat (by omega)
      have m2 := c3 k (by omega)
      have m3 := c2 (zOp R cd k).toNat k ho2 (by omega)
      have q1 := zRq_b h0 ⟨m1.1, m1.2.1⟩
      have q2 := zRq_b h0 ⟨m2.1, m2.2.1⟩
      have q3 := zRq_mono (R := R) (Int.le_of_lt m3)
      rw [e1, e2]
      refine ⟨fun i hi => ?_, fun i j hij hj => ?_, fun i j hi hj1 hj2 => ?_, fun hx => absurd rfl hx⟩
      · rw [sn_len] at hi
        by_cases a : i < (zSp R cd k).length
        · rw [sn_lt a]
          exact h1 i a
        · rw [show i = (zSp R cd k).length by omega, sn_eq]
          exact ⟨q1.1, q3, q2.2⟩
      · rw [sn_len] at hj
        by_cases a : j < (zSp R cd k).length
        · rw [sn_lt a, sn_lt (by omega)]
          exact h2 i j hij a
        · rw [show j = (zSp R cd k).length by omega, sn_eq, sn_lt (by omega)]
          exact h4 h.1 i (by omega)
      · rw [sn_len] at hi
        have m4 := c2 k j (by omega) hj2
        have q4 := zRq_mono (R := R) (Int.le_of_lt m4)
        by_cases a : i < (zSp R cd k).length
        · rw [sn_lt a]
          exact h3 i j a (by omega) hj2
        · rw [show i = (zSp R cd k).length by omega, sn_eq]
          exact q4
    · have e1 : zSp R cd (k + 1) = zSp R cd k := if_neg h
      rw [e1]
      refine ⟨h1, h2, fun i j hi hj1 hj2 => h3 i j hi (by omega) hj2, fun hx i hi => ?_⟩
      have e2 : zOp R cd (k + 1) = if (cd.getD k zp0).2 = 1 then -1 else (k : Int) := if_neg h
      rw [e2] at hx ⊢
      by_cases a : (cd.getD k zp0).2 = 1
      · rw [if_pos a] at hx
        exact absurd rfl hx
      · rw [if_neg a, Int.toNat_natCast]
        exact h3 i k hi (Nat.le_refl _) (by omega)
/-! the reference pairs -/
theorem m_quarterAt {v : zHp} {m : Int} (hm : 0 ≤ m ∧ m ≤ 1000000) : fX12_quarterAt v m = some (v, zRq (v 139) m) := by
  unfold fX12_quarterAt zRq
  rw [zck_pos (by decide), Int.tmod_eq_emod_of_nonneg hm.1, Int.tdiv_eq_ediv_of_nonneg hm.1, zn_pos (by omega), zn_pos (by omega)]
  by_cases h : m % 15 ≤ v 139 0
  · rw [if_neg (by omega), if_pos h]
  · rw [if_pos (by omega), if_neg h]
/-- the reference's spans -/
def zSpM (v : zHp) (sp : List zP2) : Prop := v 137 19 = (sp.length : Int) ∧ ∀ i : Nat, i < sp.length → v 146 (i : Int) = (sp.getD i zp0).1 ∧ v 147 (i : Int) = (sp.getD i zp0).2
theorem pairs_L {w : Nat} {cd : List zP2} {R : Int → Int} (hw : w < 4) (hR : zWR R) (hok : zCdOk R cd) : ∀ (d fu k : Nat) (v : zHp), k + d = cd.length → d < fu → v 139 = R → zCdM v (w : Int) cd → zSpM v (zSp R cd k) → (∀ j : Nat, j < k → v 145 (j : Int) = zRo R cd k j) → ∃ v', fX12_laysPairs_L9 fu v (w : Int) (zOp R cd k) (k : Int) = some (v', 0) ∧ zSpM v' (zSp R cd cd.length) ∧ (∀ j : Nat, j < cd.length → v' 145 (j : Int) = zRo R cd cd.length j) ∧ (∀ a, a ≠ 145 → a ≠ 146 → a ≠ 147 → a ≠ 137 → v' a = v a) ∧ ∀ j, j ≠ 19 → v' 137 j = v 137 j
  | 0, fu, k, v, h1, h2, h3, h4, h5, h6 => by
    obtain ⟨f, rfl⟩ : ∃ f, fu = f + 1 := ⟨fu - 1, by omega⟩
    have hk : k = cd.length := by omega
    have hs := h4.1
    refine ⟨v, ?_, by rw [← hk]; exact h5, by rw [← hk]; exact h6, fun a _ _ _ _ => rfl, fun j _ => rfl⟩
    rw [fX12_laysPairs_L9.eq_2, zck_pos (by omega), if_pos (by omega)]
  | d + 1, fu, k, v, h1, h2, h3, h4, h5, h6 => by
    obtain ⟨f, rfl⟩ : ∃ f, fu = f + 1 := ⟨fu - 1, by omega⟩
    have hs := h4.1
    have hl := hok.1
    obtain ⟨v1, v2⟩ := h4.2 k (by omega)
    obtain ⟨k1, k2, k3, k4⟩ := hok.2.2 k (by omega)
    have hr3 := hR.2.1
    have hq := @zQA_b R 28
    have ho := zOp_b (R := R) (cd := cd) k
    have hlen := zSp_len (R := R) (cd := cd) k
    have e1 : (k : Int) + 1 = ((k + 1 : Nat) : Int) := by omega
    have n145 : ∀ a, a ≠ 145 → zst v 145 (k : Int) 2 a = v a := fun a ha => by funext j; exact zst_na ha
    rw [fX12_laysPairs_L9.eq_2, zck_pos (by omega), if_neg (by omega), zck_pos (by omega), zck_pos (by omega), zb_e, v2, n145 139 (by decide), n145 142 (by decide), h3, v1]
    by_cases hc : zCl R cd k (zOp R cd k)
    · obtain ⟨c1, c2, c3⟩ := hc
      have ho2 : (zOp R cd k).toNat < k := by omega
      have ho3 : zOp R cd k = (((zOp R cd k).toNat : Nat) : Int) := by omega
      obtain ⟨w1, w2⟩ := h4.2 (zOp R cd k).toNat (by omega)
      obtain ⟨o1, o2, o3, o4⟩ := hok.2.2 (zOp R cd k).toNat (by omega)
      rw [← ho3] at w1
      have q1 := zRq_b (R := R) ⟨hr3.1, hr3.2.1⟩ ⟨o1, o2⟩
      have q2 := zRq_b (R := R) ⟨hr3.1, hr3.2.1⟩ ⟨k1, k2⟩
      rw [if_neg c1] at hlen
      rw [if_pos c1, if_pos c2, zck_pos (by omega), zck_pos (by omega), zck_pos (by decide), w1, zn_pos (by omega), zn_pos (by omega), if_neg (by omega), zck_pos (by omega), zb_e, zck_pos (by omega), zb_e, zck_pos (by omega)]
      have na : ∀ a, a ≠ 145 → zst (zst (zst v 145 (k : Int) 2) 145 (zOp R cd k) 0) 145 (k : Int) 1 a = v a := fun a ha => by funext j; rw [zst_na ha, zst_na ha, zst_na ha]
      have r145 : ∀ j : Int, zst (zst (zst v 145 (k : Int) 2) 145 (zOp R cd k) 0) 145 (k : Int) 1 145 j = if j = (k : Int) then 1 else if j = zOp R cd k then 0 else v 145 j := fun j => by
        rw [zst_if, zst_if, zst_if]
        by_cases a : j = (k : Int)
        · rw [if_pos a, if_pos a]
        · rw [if_neg a, if_neg a, if_neg a]
      generalize zst (zst (zst v 145 (k : Int) 2) 145 (zOp R cd k) 0) 145 (k : Int) 1 = u at na r145 ⊢
      have u139 : u 139 = R := by rw [na 139 (by decide)]; exact h3
      rw [na 142 (by decide), w1, m_quarterAt (by omega), u139, zcl_e, na 137 (by decide), h5.1, zck_pos (by omega), zb_e, zck_pos (by omega), zst_na (by decide), na 142 (by decide), v1, m_quarterAt (by omega), show zst u 146 ((zSp R cd k).length : Int) (zRq R (cd.getD (zOp R cd k).toNat zp0).1) 139 = R by funext j; rw [zst_na (by decide), u139], zcl_e, zst_na (by decide), na 137 (by decide), h5.1, zck_pos (by omega), zb_e, zst_na (by decide), zst_na (by decide), na 137 (by decide), h5.1, zn_pos (by omega), zb_e, zn_pos (by omega), e1]
      have eSp : zSp R cd (k + 1) = zSp R cd k ++ [(zRq R (cd.getD (zOp R cd k).toNat zp0).1, zRq R (cd.getD k zp0).1)] := if_pos ⟨c1, c2, c3⟩
      have eOp : zOp R cd (k + 1) = -1 := if_pos ⟨c1, c2, c3⟩
      have eRo : ∀ j, zRo R cd (k + 1) j = if j = k then 1 else if (j : Int) = zOp R cd k then 0 else zRo R cd k j := fun j => if_pos ⟨c1, c2, c3⟩
      have nb : ∀ a, a ≠ 145 → a ≠ 146 → a ≠ 147 → a ≠ 137 → zst (zst (zst u 146 ((zSp R cd k).length : Int) (zRq R (cd.getD (zOp R cd k).toNat zp0).1)) 147 ((zSp R cd k).length : Int) (zRq R (cd.getD k zp0).1)) 137 19 (((zSp R cd k).length : Int) + 1) a = v a := fun a a1 a2 a3 a4 => by
        funext j
        rw [zst_na a4, zst_na a3, zst_na a2, na a a1]
      have nc : ∀ j, j ≠ 19 → zst (zst (zst u 146 ((zSp R cd k).length : Int) (zRq R (cd.getD (zOp R cd k).toNat zp0).1)) 147 ((zSp R cd k).length : Int) (zRq R (cd.getD k zp0).1)) 137 19 (((zSp R cd k).length : Int) + 1) 137 j = v 137 j := fun j hj => by rw [zst_nj hj, zst_na (by decide), zst_na (by decide), na 137 (by decide)]
      have r145' : ∀ j : Int, zst (zst (zst u 146 ((zSp R cd k).length : Int) (zRq R (cd.getD (zOp R cd k).toNat zp0).1)) 147 ((zSp R cd k).length : Int) (zRq R (cd.getD k zp0).1)) 137 19 (((zSp R cd k).length : Int) + 1) 145 j = if j = (k : Int) then 1 else if j = zOp R cd k then 0 else v 145 j := fun j => by rw [zst_na (by decide), zst_na (by decide), zst_na (by decide)]; exact r145 j
      have rS : zSpM (zst (zst (zst u 146 ((zSp R cd k).length : Int) (zRq R (cd.getD (zOp R cd k).toNat zp0).1)) 147 ((zSp R cd k).length : Int) (zRq R (cd.getD k zp0).1)) 137 19 (((zSp R cd k).length : Int) + 1)) (zSp R cd (k + 1)) := by
        rw [eSp]
        refine ⟨by rw [zst_eq, sn_len]; rfl, fun i hi => ?_⟩
        rw [sn_len] at hi
        rw [zst_na (by decide), zst_na (by decide), zst_if, zst_na (by decide), zst_if, zst_na (by decide), na 146 (by decide), na 147 (by decide)]
        by_cases a : i = (zSp R cd k).length
        · have a2 : (i : Int) = ((zSp R cd k).length : Int) := by omega
          rw [if_pos a2, if_pos a2, a, sn_eq]
          exact ⟨rfl, rfl⟩
        · have a2 : ¬ (i : Int) = ((zSp R cd k).length : Int) := by omega
          rw [if_neg a2, if_neg a2, sn_lt (by omega)]
          exact h5.2 i (by omega)
      generalize zst (zst (zst u 146 ((zSp R cd k).length : Int) (zRq R (cd.getD (zOp R cd k).toNat zp0).1)) 147 ((zSp R cd k).length : Int) (zRq R (cd.getD k zp0).1)) 137 19 (((zSp R cd k).length : Int) + 1) = x at nb nc r145' rS ⊢
      obtain ⟨v', g1, g2, g3, g4, g5⟩ := pairs_L hw hR hok d f (k + 1) x (by omega) (by omega) (by rw [nb 139 (by decide) (by decide) (by decide) (by decide)]; exact h3) (by
        unfold zCdM
        rw [nb 141 (by decide) (by decide) (by decide) (by decide), nb 142 (by decide) (by decide) (by decide) (by decide), nb 143 (by decide) (by decide) (by decide) (by decide)]
        exact h4) rS (fun j hj => by
        rw [r145', eRo]
        by_cases a : j = k
        · rw [if_pos (by omega), if_pos a]
        · rw [if_neg (by omega), if_neg a]
          by_cases b : (j : Int) = zOp R cd k
          · rw [if_pos b, if_pos b]
          · rw [if_neg b, if_neg b]
            exact h6 j (by omega))
      rw [eOp] at g1
      exact ⟨v', g1, g2, g3, fun a a1 a2 a3 a4 => by rw [g4 a a1 a2 a3 a4, nb a a1 a2 a3 a4], fun j hj => by rw [g5 j hj, nc j hj]⟩
    · have eSp : zSp R cd (k + 1) = zSp R cd k := if_neg hc
      have eOp : zOp R cd (k + 1) = if (cd.getD k zp0).2 = 1 then -1 else (k : Int) := if_neg hc
      have eRo : ∀ j, zRo R cd (k + 1) j = if j = k then 2 else zRo R cd k j := fun j => if_neg hc
      obtain ⟨v', g1, g2, g3, g4, g5⟩ := pairs_L hw hR hok d f (k + 1) (zst v 145 (k : Int) 2) (by omega) (by omega) (by rw [n145 139 (by decide)]; exact h3) (by
        unfold zCdM
        rw [n145 141 (by decide), n145 142 (by decide), n145 143 (by decide)]
        exact h4) (by
        rw [eSp]
        unfold zSpM
        rw [n145 137 (by decide), n145 146 (by decide), n145 147 (by decide)]
        exact h5) (fun j hj => by
        rw [zst_if, eRo]
        by_cases a : j = k
        · rw [if_pos (by omega), if_pos a]
        · rw [if_neg (by omega), if_neg a]
          exact h6 j (by omega))
      refine ⟨v', ?_, g2, g3, fun a a1 a2 a3 a4 => by rw [g4 a a1 a2 a3 a4, n145 a a1], fun j hj => by rw [g5 j hj, n145 137 (by decide)]⟩
      rw [← g1, eOp]
      by_cases c1 : zOp R cd k = -1
      · rw [if_neg (by omega), zn_pos (by omega), zn_pos (by omega), e1]
        by_cases c2 : (cd.getD k zp0).2 = 1
        · rw [if_neg (by omega), if_pos c2]
        · rw [if_pos c2, if_neg c2]
      · rw [if_pos c1]
        by_cases c2 : (cd.getD k zp0).2 = 0
        · rw [if_neg (by omega), zn_pos (by omega), if_neg (by omega), e1]
        · have ho3 : zOp R cd k = (((zOp R cd k).toNat : Nat) : Int) := by omega
          obtain ⟨w1, w2⟩ := h4.2 (zOp R cd k).toNat (by omega)
          obtain ⟨o1, o2, o3, o4⟩ := hok.2.2 (zOp R cd k).toNat (by omega)
          rw [← ho3] at w1
          have c3 : ¬ (cd.getD k zp0).1 - (cd.getD (zOp R cd k).toNat zp0).1 ≤ 60 * R 3 := fun h => hc ⟨c1, c2, h⟩
          rw [if_pos c2, zck_pos (by omega), zck_pos (by omega), zck_pos (by decide), w1, zn_pos (by omega), zn_pos (by omega), if_pos (by omega), zn_pos (by omega), zn_pos (by omega), e1]
          by_cases c4 : (cd.getD k zp0).2 = 1
          · rw [if_pos (by omega), if_pos c4]
          · rw [if_neg (by omega), if_neg c4]
theorem m_pairs {w : Nat} {cd : List zP2} {v : zHp} (hw : w < 4) (hR : zWR (v 139)) (hok : zCdOk (v 139) cd) (hc : zCdM v (w : Int) cd) : ∃ v', fX12_laysPairs v (w : Int) = some (v', 0) ∧ zSpM v' (zSp (v 139) cd cd.length) ∧ (∀ j : Nat, j < cd.length → v' 145 (j : Int) = zRo (v 139) cd cd.length j) ∧ (∀ a, a ≠ 145 → a ≠ 146 → a ≠ 147 → a ≠ 137 → v' a = v a) ∧ ∀ j, j ≠ 19 → v' 137 j = v 137 j := by
  have n : ∀ a, a ≠ 137 → zst v 137 19 0 a = v a := fun a ha => by funext j; exact zst_na ha
  obtain ⟨v', g1, g2, g3, g4, g5⟩ := pairs_L (w := w) hw hR hok cd.length zFU 0 (zst v 137 19 0) (by omega) (zFU_lt (by have := hok.1; omega)) (n 139 (by decide)) (by
    unfold zCdM
    rw [n 141 (by decide), n 142 (by decide), n 143 (by decide)]
    exact hc) ⟨zst_eq, fun i h => absurd h (Nat.not_lt_zero _)⟩ (fun j h => absurd h (Nat.not_lt_zero _))
  refine ⟨v', ?_, g2, g3, fun a a1 a2 a3 a4 => by rw [g4 a a1 a2 a3 a4, n a a4], fun j hj => by rw [g5 j hj, zst_nj hj]⟩
  unfold fX12_laysPairs
  rw [zb_e]
  show zl (fX12_laysPairs_L9 zFU (zst v 137 19 0) (w : Int) (zOp (v 139) cd 0) ((0 : Nat) : Int)) _ = _
  rw [g1]
  rfl
