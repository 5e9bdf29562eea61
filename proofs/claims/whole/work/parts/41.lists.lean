/-! PURE: days, hours, weeks of quarters; the list of a week's worked ones; which premiums may be. My own text. -/
def zDy (R : Int → Int) (q : Int) : Int := zTo R (15 * q) / 1440
def zHq (R : Int → Int) (q : Int) : Int := zTo R (15 * q) % 1440 / 60
theorem zQA_mono {R : Int → Int} {a b : Int} (h : a ≤ b) : zQA R a ≤ zQA R b := by
  unfold zQA
  repeat' split
  all_goals omega
theorem zDy_b {R : Int → Int} (hR : zWk R) {q : Int} (hq : 0 ≤ q ∧ q < zQA R 28) : 0 ≤ zDy R q ∧ zDy R q ≤ 27 := by
  have h := (zTo_in (R := R) hR (m := 15 * q) (by omega)).mpr (by omega)
  unfold zDy
  omega
theorem zDy_in {R : Int → Int} (hR : zWk R) {q : Int} (hq : 0 ≤ q ∧ q < zQA R 28) : zQA R (zDy R q) ≤ q ∧ q < zQA R (zDy R q + 1) := by
  have h := (zTo_in (R := R) hR (m := 15 * q) (by omega)).mpr (by omega)
  unfold zDy at *
  unfold zTo zQA zTurn at *
  unfold zWk at hR
  generalize R 5 = a at *
  generalize R 6 = b at *
  generalize R 7 = c at *
  rcases hR with ⟨rfl, rfl, rfl⟩ | ⟨h1, h2, h3, h4, rfl | rfl⟩
  · simp only [if_true] at *
    repeat' split
    all_goals omega
  · have h5 : ¬ a = -1 := by omega
    simp only [if_neg h5, if_neg (show ¬ (0 : Int) = 1 by decide), if_true] at *
    by_cases h6 : 15 * q < 1440 * a + 60 * b + 60
    · simp only [if_pos h6] at *
      repeat' split
      all_goals omega
    · simp only [if_neg h6] at *
      repeat' split
      all_goals omega
  · have h5 : ¬ a = -1 := by omega
    simp only [if_neg h5, if_true] at *
    by_cases h6 : 15 * q < 1440 * a + 60 * b
    · simp only [if_pos h6] at *
      repeat' split
      all_goals omega
    · simp only [if_neg h6] at *
      repeat' split
      all_goals omega
theorem zDy_iff {R : Int → Int} (hR : zWk R) {q d : Int} (hq : 0 ≤ q ∧ q < zQA R 28) : zDy R q = d ↔ zQA R d ≤ q ∧ q < zQA R (d + 1) := by
  have h := zDy_in hR hq
  constructor
  · intro e
    rw [← e]
    exact h
  · intro e
    rcases Int.lt_trichotomy (zDy R q) d with h1 | h1 | h1
    · have := zQA_mono (R := R) (show zDy R q + 1 ≤ d by omega)
      omega
    · exact h1
    · have := zQA_mono (R := R) (show d + 1 ≤ zDy R q by omega)
      omega
theorem m_dayOf {v : zHp} (hR : zWk (v 139)) {q : Int} (hq : 0 ≤ q ∧ q < zQA (v 139) 28) : fX12_dayOf v q = some (v, zDy (v 139) q) := by
  have hb := @zQA_b (v 139) 28
  have h := (zTo_in (R := v 139) hR (m := 15 * q) (by omega)).mpr (by omega)
  unfold fX12_dayOf zDy
  rw [zn_pos (by omega), m_toldAt hR (by omega), zcl_e, if_pos (by omega : 0 ≤ 15 * q ∧ 0 ≤ zTo (v 139) (15 * q) ∧ zTo (v 139) (15 * q) ≤ 40319), Int.tdiv_eq_ediv_of_nonneg h.1]
theorem m_hourOf {v : zHp} (hR : zWk (v 139)) {q : Int} (hq : 0 ≤ q ∧ q < zQA (v 139) 28) : fX12_hourOf v q = some (v, zHq (v 139) q) := by
  have hb := @zQA_b (v 139) 28
  have h := (zTo_in (R := v 139) hR (m := 15 * q) (by omega)).mpr (by omega)
  unfold fX12_hourOf zHq
  rw [zn_pos (by omega), m_toldAt hR (by omega), zcl_e, if_pos (by omega : 0 ≤ 15 * q ∧ 0 ≤ zTo (v 139) (15 * q) ∧ zTo (v 139) (15 * q) ≤ 40319), Int.tmod_eq_emod_of_nonneg h.1, Int.tdiv_eq_ediv_of_nonneg (by omega)]
theorem c_hourAt {k : Nat} {v : zHp} {R : Int → Int} (hk : zCK k v R) (hR : zWk R) {q : Int} (hq : 0 ≤ q ∧ q < zQA R 28) : fX2_hourAt v k (q * 15) = some (v, zHq R q) := by
  have hb := @zQA_b R 28
  have h := (zTo_in (R := R) hR (m := 15 * q) (by omega)).mpr (by omega)
  unfold fX2_hourAt zHq
  rw [Int.mul_comm q 15, c_toldAt hk hR (by omega), zcl_e, Int.tmod_eq_emod_of_nonneg h.1, Int.tdiv_eq_ediv_of_nonneg (by omega)]
/-! lists of quarters -/
def yQL (D : Int → Bool) : Nat → List Int
  | 0 => []
  | n + 1 => if D (n : Int) then yQL D n ++ [(n : Int)] else yQL D n
abbrev zN (D : Int → Bool) (x : Int) : Nat := (yQL D x.toNat).length
theorem yQL_t {D : Int → Bool} {n : Nat} (h : D (n : Int) = true) : yQL D (n + 1) = yQL D n ++ [(n : Int)] := if_pos h
theorem yQL_f {D : Int → Bool} {n : Nat} (h : D (n : Int) = false) : yQL D (n + 1) = yQL D n := if_neg (by rw [h]; decide)
theorem yQL_pre {D : Int → Bool} : ∀ (k a : Nat), ∃ t, yQL D (a + k) = yQL D a ++ t
  | 0, a => ⟨[], (List.append_nil _).symm⟩
  | k + 1, a => by
    obtain ⟨t, h⟩ := yQL_pre (D := D) k a
    rw [show a + (k + 1) = a + k + 1 by omega]
    cases hd : D ((a + k : Nat) : Int) with
    | true => exact ⟨t ++ [((a + k : Nat) : Int)], by rw [yQL_t hd, h, List.append_assoc]⟩
    | false => exact ⟨t, by rw [yQL_f hd, h]⟩
theorem yQL_le {D : Int → Bool} {a b : Nat} (h : a ≤ b) : (yQL D a).length ≤ (yQL D b).length := by
  obtain ⟨t, e⟩ := yQL_pre (D := D) (b - a) a
  rw [show a + (b - a) = b by omega] at e
  rw [e, List.length_append]
  omega
theorem zN_mono {D : Int → Bool} {a b : Int} (h : a ≤ b) : zN D a ≤ zN D b := yQL_le (by omega)
theorem yQL_gap {D : Int → Bool} : ∀ (k a : Nat), (yQL D (a + k)).length ≤ (yQL D a).length + k
  | 0, a => Nat.le_refl _
  | k + 1, a => by
    have h := yQL_gap (D := D) k a
    rw [show a + (k + 1) = a + k + 1 by omega]
    cases hd : D ((a + k : Nat) : Int) with
    | true => rw [yQL_t hd, sn_len]; omega
    | false => rw [yQL_f hd]; omega
theorem zN_gap {D : Int → Bool} {a b : Int} (h0 : 0 ≤ a) (h : a ≤ b) : (zN D b : Int) ≤ (zN D a : Int) + (b - a) := by
  have := yQL_gap (D := D) (b.toNat - a.toNat) a.toNat
  rw [show a.toNat + (b.toNat - a.toNat) = b.toNat by omega] at this
  show ((yQL D b.toNat).length : Int) ≤ ((yQL D a.toNat).length : Int) + (b - a)
  omega
theorem yQL_skip {D : Int → Bool} : ∀ (k a : Nat), (∀ x : Nat, a ≤ x → x < a + k → D (x : Int) = false) → yQL D (a + k) = yQL D a
  | 0, a, _ => rfl
  | k + 1, a, h => by
    rw [show a + (k + 1) = a + k + 1 by omega, yQL_f (h (a + k) (by omega) (by omega)), yQL_skip k a fun x h1 h2 => h x h1 (by omega)]
theorem yQL_skip2 {D : Int → Bool} {a b : Int} (h0 : 0 ≤ a) (hab : a ≤ b) (h : ∀ x : Int, a ≤ x → x < b → D x = false) : yQL D b.toNat = yQL D a.toNat := by
  have := yQL_skip (D := D) (b.toNat - a.toNat) a.toNat fun x h1 h2 => h (x : Int) (by omega) (by omega)
  rw [show a.toNat + (b.toNat - a.toNat) = b.toNat by omega] at this
  exact this
theorem zN_t {D : Int → Bool} {q : Int} (h0 : 0 ≤ q) (h : D q = true) : yQL D (q + 1).toNat = yQL D q.toNat ++ [q] := by
  have e : ((q.toNat : Nat) : Int) = q := by omega
  rw [show (q + 1).toNat = q.toNat + 1 by omega, yQL_t (by rw [e]; exact h), e]
theorem zN_t1 {D : Int → Bool} {q : Int} (h0 : 0 ≤ q) (h : D q = true) : zN D (q + 1) = zN D q + 1 := by
  show (yQL D (q + 1).toNat).length = _
  rw [zN_t h0 h, sn_len]
theorem zN_f {D : Int → Bool} {q : Int} (h0 : 0 ≤ q) (h : D q = false) : yQL D (q + 1).toNat = yQL D q.toNat := by
  have e : ((q.toNat : Nat) : Int) = q := by omega
  rw [show (q + 1).toNat = q.toNat + 1 by omega, yQL_f (by rw [e]; exact h)]
theorem yQL_pre2 {D : Int → Bool} {a b i : Nat} (h : a ≤ b) (hi : i < (yQL D a).length) : (yQL D b).getD i 0 = (yQL D a).getD i 0 := by
  obtain ⟨t, e⟩ := yQL_pre (D := D) (b - a) a
  rw [show a + (b - a) = b by omega] at e
  rw [e, List.getD_eq_getElem?_getD, List.getElem?_append_left hi, List.getD_eq_getElem?_getD]
/-- the place of a quarter in the list -/
theorem yQL_at {D : Int → Bool} {q b : Int} (h0 : 0 ≤ q) (hD : D q = true) (hb : q < b) : zN D q < zN D b ∧ (yQL D b.toNat).getD (zN D q) 0 = q := by
  have h1 := zN_t1 h0 hD
  have h2 := zN_mono (D := D) (show q + 1 ≤ b by omega)
  refine ⟨by omega, ?_⟩
  rw [yQL_pre2 (a := (q + 1).toNat) (by omega) (show zN D q < zN D (q + 1) by omega), zN_t h0 hD]
  exact sn_eq
theorem yQL_ex {D : Int → Bool} : ∀ (n i : Nat), i < (yQL D n).length → ∃ q : Nat, q < n ∧ D (q : Int) = true ∧ i = (yQL D q).length ∧ (yQL D n).getD i 0 = (q : Int)
  | 0, i, h => absurd h (Nat.not_lt_zero _)
  | n + 1, i, h => by
    cases hd : D (n : Int) with
    | true =>
      rw [yQL_t hd] at h ⊢
      rw [sn_len] at h
      by_cases hi : i < (yQL D n).length
      · obtain ⟨q, h1, h2, h3, h4⟩ := yQL_ex n i hi
        exact ⟨q, by omega, h2, h3, by rw [sn_lt hi]; exact h4⟩
      · have e : i = (yQL D n).length := by omega
        exact ⟨n, by omega, hd, e, by rw [e]; exact sn_eq⟩
    | false =>
      rw [yQL_f hd] at h ⊢
      obtain ⟨q, h1, h2, h3, h4⟩ := yQL_ex n i h
      exact ⟨q, by omega, h2, h3, h4⟩
theorem yQL_cong {D E : Int → Bool} : ∀ n : Nat, (∀ x : Nat, x < n → D (x : Int) = E (x : Int)) → yQL D n = yQL E n
  | 0, _ => rfl
  | n + 1, h => by
    unfold yQL
    rw [h n (by omega), yQL_cong n fun x hx => h x (by omega)]
/-! pieces in order -/
def zPo (lo hi : Int) (ps : List zP2) : Prop := (∀ i : Nat, i < ps.length → lo ≤ (ps.getD i zp0).1 ∧ (ps.getD i zp0).1 < (ps.getD i zp0).2 ∧ (ps.getD i zp0).2 ≤ hi) ∧ ∀ i j : Nat, i < j → j < ps.length → (ps.getD i zp0).2 ≤ (ps.getD j zp0).1
theorem ap_r {α : Type} {a b : List α} {d : α} {i : Nat} (h : a.length ≤ i) : (a ++ b).getD i d = b.getD (i - a.length) d := by
  rw [List.getD_eq_getElem?_getD, List.getElem?_append_right h, List.getD_eq_getElem?_getD]
theorem ap_l {α : Type} {a b : List α} {d : α} {i : Nat} (h : i < a.length) : (a ++ b).getD i d = a.getD i d := by
  rw [List.getD_eq_getElem?_getD, List.getElem?_append_left h, List.getD_eq_getElem?_getD]
theorem zPo_app {lo mid hi : Int} {a b : List zP2} (h1 : lo ≤ mid) (h2 : mid ≤ hi) (ha : zPo lo mid a) (hb : zPo mid hi b) : zPo lo hi (a ++ b) := by
  refine ⟨fun i h => ?_, fun i j hij h => ?_⟩
  · rw [List.length_append] at h
    by_cases c : i < a.length
    · rw [ap_l c]
      have := ha.1 i c
      omega
    · rw [ap_r (by omega)]
      have := hb.1 (i - a.length) (by omega)
      omega
  · rw [List.length_append] at h
    by_cases c : j < a.length
    · rw [ap_l c, ap_l (by omega)]
      exact ha.2 i j hij c
    · rw [ap_r (show a.length ≤ j by omega)]
      have q1 := hb.1 (j - a.length) (by omega)
      by_cases c2 : i < a.length
      · rw [ap_l c2]
        have := ha.1 i c2
        omega
      · rw [ap_r (by omega)]
        exact hb.2 _ _ (by omega) (by omega)
theorem zPo_one {lo hi b e : Int} (h : lo ≤ b ∧ b < e ∧ e ≤ hi) : zPo lo hi [(b, e)] := by
  refine ⟨fun i hi => ?_, fun i j hij hj => ?_⟩
  · have : i = 0 := by
      have : i < 1 := hi
      omega
    subst this
    exact h
  · have : j < 1 := hj
    omega
theorem zPo_nil {lo hi : Int} : zPo lo hi [] := ⟨fun _ h => absurd h (Nat.not_lt_zero _), fun _ _ _ h => absurd h (Nat.not_lt_zero _)⟩
theorem zPo_pc {R : Int → Int} (h2 : 0 ≤ R 2) {s : zP2} (h : s.1 ≤ s.2) : zPo s.1 s.2 (zPc R s) := by
  unfold zPc
  by_cases c : 0 < R 1 ∧ R 1 < s.2 - s.1
  · rw [if_pos c]
    refine zPo_app (a := [(s.1, s.1 + R 1)]) (b := if s.1 + R 1 + R 2 < s.2 then [(s.1 + R 1 + R 2, s.2)] else []) (mid := s.1 + R 1) (by omega) (by omega) (zPo_one (by omega)) ?_
    by_cases c2 : s.1 + R 1 + R 2 < s.2
    · rw [if_pos c2]
      exact zPo_one (by omega)
    · rw [if_neg c2]
      exact zPo_nil
  · rw [if_neg c]
    by_cases c2 : s.1 < s.2
    · rw [if_pos c2]
      exact zPo_one (b := s.1) (e := s.2) (by omega)
    · rw [if_neg c2]
      exact zPo_nil
theorem zPo_ps {R : Int → Int} (h2 : 0 ≤ R 2) {hi : Int} : ∀ (sp : List zP2) (lo : Int), lo ≤ hi → (∀ i : Nat, i < sp.length → lo ≤ (sp.getD i zp0).1 ∧ (sp.getD i zp0).1 ≤ (sp.getD i zp0).2 ∧ (sp.getD i zp0).2 ≤ hi) → (∀ i j : Nat, i < j → j < sp.length → (sp.getD i zp0).2 ≤ (sp.getD j zp0).1) → zPo lo hi (zPs R sp)
  | [], lo, _, _, _ => zPo_nil
  | s :: t, lo, h0, h1, h3 => by
    obtain ⟨a1, a2, a3⟩ : lo ≤ s.1 ∧ s.1 ≤ s.2 ∧ s.2 ≤ hi := h1 0 (Nat.succ_pos _)
    have ht := zPo_ps h2 t s.2 a3 (fun i hi => by
      have q1 := h1 (i + 1) (Nat.succ_lt_succ hi)
      have q2 := h3 0 (i + 1) (Nat.succ_pos _) (Nat.succ_lt_succ hi)
      exact ⟨q2, q1.2.1, q1.2.2⟩) (fun i j hij hj => h3 (i + 1) (j + 1) (Nat.succ_lt_succ hij) (Nat.succ_lt_succ hj))
    have hs := zPo_pc (R := R) h2 a2
    have hs2 : zPo lo s.2 (zPc R s) := ⟨fun i hi => by have := hs.1 i hi; omega, hs.2⟩
    show zPo lo hi (zPc R s ++ zPs R t)
    exact zPo_app (by omega) a3 hs2 ht
/-- pieces as they should be -/
def zPok (R : Int → Int) (ps : List zP2) : Prop := zPo 0 (zQA R 28) ps ∧ ps.length ≤ 60
theorem zPcs_ok {R : Int → Int} (hR : zWR R) {cd : List zP2} (hok : zCdOk R cd) : zPok R (zPcs R cd) ∧ (zSpa R cd).length ≤ 30 := by
  have hl := hok.1
  have hlen : (zSpa R cd).length ≤ 30 := by
    have := zSp_len (R := R) (cd := cd) cd.length
    show (zSp R cd cd.length).length ≤ 30
    omega
  have hsok := zSp_ok (R := R) ⟨hR.2.1.1, hR.2.1.2.1⟩ hok cd.length (Nat.le_refl _)
  have h2 := zPs_len (R := R) (sp := zSpa R cd)
  have hq := @zQA_b R 28
  refine ⟨⟨zPo_ps hR.2.1.2.2.2.2.1 _ 0 (by omega) hsok.1 hsok.2.1, ?_⟩, hlen⟩
  show (zPs R (zSpa R cd)).length ≤ 60
  omega
theorem zWd_b {R : Int → Int} {ps : List zP2} (h : zPok R ps) {q : Int} (hq : zWd ps q = true) : 0 ≤ q ∧ q < zQA R 28 := by
  obtain ⟨i, h1, h2, h3⟩ := zWd_iff.mp hq
  have := h.1.1 i h1
  omega
/-- worked, and of the week -/
def zD (R : Int → Int) (ps : List zP2) (wk q : Int) : Bool := zWd ps q && (decide (zQA R (7 * wk) ≤ q) && decide (q < zQA R (7 * wk + 7)))
theorem zD_iff {R : Int → Int} {ps : List zP2} {wk q : Int} : zD R ps wk q = true ↔ zWd ps q = true ∧ zQA R (7 * wk) ≤ q ∧ q < zQA R (7 * wk + 7) := by
  unfold zD
  rw [Bool.and_eq_true, Bool.and_eq_true, decide_eq_true_iff, decide_eq_true_iff]
/-! which premiums may be -/
def zNt (R : Int → Int) (hour : Int) (p : Nat) : Bool := if R (11 + 5 * (p : Int) + 4) < R (11 + 5 * (p : Int) + 3) then decide (R (11 + 5 * (p : Int) + 3) ≤ hour) || decide (hour < R (11 + 5 * (p : Int) + 4)) else decide (R (11 + 5 * (p : Int) + 3) ≤ hour) && decide (hour < R (11 + 5 * (p : Int) + 4))
def zMy (R : Int → Int) (hour od : Int) (sev hol : Bool) (p : Nat) : Bool := if R (11 + 5 * (p : Int) + 0) = 0 then decide (R (11 + 5 * (p : Int) + 3) ≤ od) else if R (11 + 5 * (p : Int) + 0) = 1 then false else if R (11 + 5 * (p : Int) + 0) = 2 then sev else if R (11 + 5 * (p : Int) + 0) = 3 then zNt R hour p else hol
/-- on how many of a week's first days something is worked -/
def zDw (R : Int → Int) (D : Int → Bool) (wk : Int) : Nat → Int
  | 0 => 0
  | e + 1 => if zN D (zQA R (7 * wk + (e : Int))) < zN D (zQA R (7 * wk + (e : Int) + 1)) then zDw R D wk e + 1 else zDw R D wk e
theorem zDw_b {R : Int → Int} {D : Int → Bool} {wk : Int} : ∀ e : Nat, 0 ≤ zDw R D wk e ∧ zDw R D wk e ≤ (e : Int)
  | 0 => ⟨Int.le_refl _, Int.le_refl _⟩
  | e + 1 => by
    have h := zDw_b (R := R) (D := D) (wk := wk) e
    unfold zDw
    split <;> omega
theorem zDw_all {R : Int → Int} {D : Int → Bool} {wk : Int} : ∀ e : Nat, zDw R D wk e = (e : Int) ↔ ∀ f : Nat, f < e → zN D (zQA R (7 * wk + (f : Int))) < zN D (zQA R (7 * wk + (f : Int) + 1))
  | 0 => ⟨fun _ f h => absurd h (Nat.not_lt_zero _), fun _ => rfl⟩
  | e + 1 => by
    have h := zDw_all (R := R) (D := D) (wk := wk) e
    have hb := zDw_b (R := R) (D := D) (wk := wk) e
    unfold zDw
    by_cases c : zN D (zQA R (7 * wk + (e : Int))) < zN D (zQA R (7 * wk + (e : Int) + 1))
    · rw [if_pos c]
      constructor
      · intro h1 f hf
        by_cases hfe : f = e
        · rw [hfe]; exact c
        · exact h.mp (by omega) f (by omega)
      · intro h1
        have := h.mpr fun f hf => h1 f (by omega)
        omega
    · rw [if_neg c]
      constructor
      · intro h1
        omega
      · intro h1
        exact absurd (h1 e (by omega)) c
def zSev (R : Int → Int) (D : Int → Bool) (wk d : Int) : Bool := decide (d = 7 * wk + 6) && decide (zDw R D wk 6 = 6)
def zHol (R : Int → Int) (d : Int) : Bool := decide (zand (zshr (R 8) d) 1 = 1)
/-- the premiums, as bits, that may be whatever counts -/
def zBi (R : Int → Int) (D : Int → Bool) (al : Nat) (wk q : Int) : Nat := zmk (fun p => zMy R (zHq R q) ((zN D q : Int) - (zN D (zQA R (zDy R q)) : Int)) (zSev R D wk (zDy R q)) (zHol R (zDy R q)) p && al.testBit p) (R 10).toNat
