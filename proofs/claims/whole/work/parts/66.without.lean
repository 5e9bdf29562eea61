/-! PURE: what is the same under rules that differ in their premiums; a premium left out is a premium that may not be. My own text. -/
def zE9 (R R' : Int → Int) : Prop := ∀ k : Int, 0 ≤ k → k < 10 → R' k = R k
theorem zE9.q {R R' : Int → Int} (h : zE9 R R') : zQA R' = zQA R := by
  funext d
  unfold zQA
  rw [h 5 (by decide) (by decide), h 7 (by decide) (by decide)]
theorem zE9.to {R R' : Int → Int} (h : zE9 R R') : zTo R' = zTo R := by
  funext d
  unfold zTo zTurn
  rw [h 5 (by decide) (by decide), h 6 (by decide) (by decide), h 7 (by decide) (by decide)]
theorem zE9.mo {R R' : Int → Int} (h : zE9 R R') : zMo R' = zMo R := by
  funext d m a
  unfold zMo zTurn
  rw [h 5 (by decide) (by decide), h 6 (by decide) (by decide), h 7 (by decide) (by decide)]
theorem zE9.dy {R R' : Int → Int} (h : zE9 R R') : zDy R' = zDy R := by
  funext q
  unfold zDy
  rw [h.to]
theorem zE9.hq {R R' : Int → Int} (h : zE9 R R') : zHq R' = zHq R := by
  funext q
  unfold zHq
  rw [h.to]
theorem zE9.dw {R R' : Int → Int} (h : zE9 R R') {D : Int → Bool} {wk : Int} : ∀ e : Nat, zDw R' D wk e = zDw R D wk e
  | 0 => rfl
  | e + 1 => by
    unfold zDw
    rw [h.q, zE9.dw h e]
theorem zE9.sev {R R' : Int → Int} (h : zE9 R R') : zSev R' = zSev R := by
  funext D wk d
  unfold zSev
  rw [h.dw]
theorem zE9.hol {R R' : Int → Int} (h : zE9 R R') : zHol R' = zHol R := by
  funext d
  unfold zHol
  rw [h 8 (by decide) (by decide)]
theorem zE9.d {R R' : Int → Int} (h : zE9 R R') : zD R' = zD R := by
  funext ps wk q
  unfold zD
  rw [h.q]
theorem zE9.rq {R R' : Int → Int} (h : zE9 R R') : zRq R' = zRq R := by
  funext m
  unfold zRq
  rw [h 0 (by decide) (by decide)]
theorem zE9.op {R R' : Int → Int} (h : zE9 R R') {cd : List zP2} : ∀ k : Nat, zOp R' cd k = zOp R cd k
  | 0 => rfl
  | k + 1 => by
    unfold zOp
    rw [zE9.op h k]
    unfold zCl
    rw [h 3 (by decide) (by decide)]
theorem zE9.sp {R R' : Int → Int} (h : zE9 R R') {cd : List zP2} : ∀ k : Nat, zSp R' cd k = zSp R cd k
  | 0 => rfl
  | k + 1 => by
    unfold zSp
    rw [zE9.sp h k, h.op, h.rq]
    unfold zCl
    rw [h 3 (by decide) (by decide)]
theorem zE9.pc {R R' : Int → Int} (h : zE9 R R') : zPc R' = zPc R := by
  funext s
  unfold zPc
  rw [h 1 (by decide) (by decide), h 2 (by decide) (by decide)]
theorem zE9.pcs {R R' : Int → Int} (h : zE9 R R') {cd : List zP2} : zPcs R' cd = zPcs R cd := by
  unfold zPcs zPs zSpa
  rw [h.pc, h.sp]
theorem zE9.ok {R R' : Int → Int} (h : zE9 R R') {cd : List zP2} (hok : zCdOk R cd) : zCdOk R' cd := by
  refine ⟨hok.1, hok.2.1, fun i hi => ?_⟩
  unfold zOk2
  rw [h.q]
  exact hok.2.2 i hi
theorem zE9.wk {R R' : Int → Int} (h : zE9 R R') (hR : zWk R) : zWk R' := by
  unfold zWk
  rw [h 5 (by decide) (by decide), h 6 (by decide) (by decide), h 7 (by decide) (by decide)]
  exact hR
/-- premium p left out: the one that follows takes its place -/
def zSg (p i : Nat) : Nat := if i < p then i else i + 1
theorem zSg_ne {p i : Nat} : zSg p i ≠ p := by
  unfold zSg
  split <;> omega
theorem zSg_ex {p i n : Nat} (h : i ≠ p) (hi : i < n) : ∃ j, zSg p j = i ∧ j + 1 < n + (if i < p then 1 else 0) ∧ j < n := by
  unfold zSg
  by_cases c : i < p
  · exact ⟨i, if_pos c, by rw [if_pos c]; omega, hi⟩
  · exact ⟨i - 1, by rw [if_neg (by omega)]; omega, by rw [if_neg c]; omega, by omega⟩
/-- rules without premium p -/
def zRx (R R' : Int → Int) (p : Nat) : Prop := zE9 R R' ∧ R' 10 = R 10 - 1 ∧ (p : Int) < R 10 ∧ ∀ (i : Nat) (f : Int), (i : Int) < R 10 - 1 → 0 ≤ f → f ≤ 4 → R' (11 + 5 * (i : Int) + f) = R (11 + 5 * ((zSg p i : Nat) : Int) + f)
theorem zRx.sg {R R' : Int → Int} {p i : Nat} (h : zRx R R' p) (hi : i < (R' 10).toNat) : zSg p i < (R 10).toNat := by
  have := h.2.1
  unfold zSg
  split <;> omega
theorem zRx.ex {R R' : Int → Int} {p i : Nat} (h : zRx R R' p) (hi : i < (R 10).toNat) (hp : i ≠ p) : ∃ j, j < (R' 10).toNat ∧ zSg p j = i := by
  have h1 := h.2.1
  have h2 := h.2.2.1
  unfold zSg
  by_cases c : i < p
  · exact ⟨i, by omega, if_pos c⟩
  · exact ⟨i - 1, by omega, by rw [if_neg (by omega)]; omega⟩
theorem zRx.f {R R' : Int → Int} {p i : Nat} (h : zRx R R' p) (hi : i < (R' 10).toNat) {f : Int} (h0 : 0 ≤ f) (h4 : f ≤ 4) : R' (11 + 5 * (i : Int) + f) = R (11 + 5 * ((zSg p i : Nat) : Int) + f) := by
  have := h.2.1
  exact h.2.2.2 i f (by omega) h0 h4
theorem zRx.wr {R R' : Int → Int} {p : Nat} (h : zRx R R' p) (hR : zWR R) : zWR R' := by
  have e := h.1
  obtain ⟨h1, h2, h3, h4⟩ := hR
  have h5 := h.2.1
  have h6 := h.2.2.1
  refine ⟨e.wk h1, ?_, ?_, fun i hi => ?_⟩
  · rw [e 0 (by decide) (by decide), e 1 (by decide) (by decide), e 2 (by decide) (by decide), e 3 (by decide) (by decide), e 4 (by decide) (by decide)]
    exact h2
  · rw [e 9 (by decide) (by decide), e 8 (by decide) (by decide), h5]
    omega
  · have hi' : i < (R' 10).toNat := by omega
    have hs := h.sg hi'
    rw [h.f hi' (f := 0) (by decide) (by decide), h.f hi' (f := 1) (by decide) (by decide), h.f hi' (f := 2) (by decide) (by decide), h.f hi' (f := 3) (by decide) (by decide), h.f hi' (f := 4) (by decide) (by decide)]
    exact h4 (zSg p i) (by omega)
/-- masks under both -/
def zRl (R' : Int → Int) (p b b' : Nat) : Prop := b.testBit p = false ∧ ∀ i : Nat, i < (R' 10).toNat → b'.testBit i = b.testBit (zSg p i)
theorem yMost_le {P P' : Nat → Bool} {H H' : Nat → Int} {o : Int} {n n' : Nat} (h : ∀ i, i < n → P i = true → ∃ j, j < n' ∧ P' j = true ∧ H' j = H i) : yMost P H o n ≤ yMost P' H' o n' := by
  have g := yMost_ge (P := P') (H := H') (o := o) n'
  rcases yMost_is (P := P) (H := H) (o := o) n with e | ⟨i, h1, h2, h3⟩
  · rw [e]
    exact g.1
  · obtain ⟨j, j1, j2, j3⟩ := h i h1 h2
    rw [h3, ← j3]
    exact g.2 j j1 j2
theorem yMost_x {R R' : Int → Int} {p b b' : Nat} (h : zRx R R' p) (hb : zRl R' p b b') {x o : Int} : yMost (fun p => b'.testBit p && decide (R' (11 + 5 * (p : Int) + 2) = x)) (yH R') o (R' 10).toNat = yMost (fun p => b.testBit p && decide (R (11 + 5 * (p : Int) + 2) = x)) (yH R) o (R 10).toNat := by
  apply Int.le_antisymm
  · refine yMost_le fun i hi hP => ⟨zSg p i, h.sg hi, ?_, ?_⟩
    · rw [← hb.2 i hi, ← h.f hi (f := 2) (by decide) (by decide)]
      exact hP
    · exact (h.f hi (f := 1) (by decide) (by decide)).symm
  · refine yMost_le fun i hi hP => ?_
    rw [Bool.and_eq_true] at hP
    obtain ⟨j, j1, j2⟩ := h.ex hi (fun e => by
      rw [e, hb.1] at hP
      exact absurd hP.1 (by decide))
    refine ⟨j, j1, ?_, ?_⟩
    · rw [hb.2 j j1, h.f j1 (f := 2) (by decide) (by decide), j2, hP.1, hP.2]
      rfl
    · rw [← j2]
      exact h.f j1 (f := 1) (by decide) (by decide)
theorem yW_x {R R' : Int → Int} {p al al' : Nat} (h : zRx R R' p) (ha : zRl R' p al al') {g g' : Int → Nat} (hg : ∀ q, zRl R' p (g q) (g' q)) : ∀ (l : List Int) (c : Int), yW R' al' (l.map g') c = yW R al (l.map g) c
  | [], _ => rfl
  | q :: t, c => by
    have hw : zRl R' p (yWm R al c) (yWm R' al' c) := by
      refine ⟨?_, fun i hi => ?_⟩
      · unfold yWm
        rw [Nat.testBit_and, ha.1, Bool.and_false]
      · unfold yWm
        rw [Nat.testBit_and, Nat.testBit_and, zmk_bit, zmk_bit, ha.2 i hi, decide_eq_true hi, decide_eq_true (h.sg hi)]
        unfold zWb
        rw [h.f hi (f := 0) (by decide) (by decide), h.f hi (f := 3) (by decide) (by decide)]
    show yW R' al' (g' q :: t.map g') c = yW R al (g q :: t.map g) c
    unfold yW yAc yAo yOc yOp
    rw [yMost_x h hw, yMost_x h hw, yMost_x h (hg q), yMost_x h (hg q), yW_x h ha hg t, yW_x h ha hg t]
/-- all premiums but one -/
def yAl (p : Nat) : Nat := 255 - 2 ^ p
theorem yAl_z : ∀ p : Nat, p < 8 → zand 255 (zxor (zshl 1 (p : Int)) (-1)) = ((yAl p : Nat) : Int) ∧ yAl p < 256 := by decide
theorem yAl_bit : ∀ p : Nat, p < 8 → ∀ i : Nat, i < 8 → (yAl p).testBit i = decide (i ≠ p) := by decide
theorem y255_bit : ∀ i : Nat, i < 8 → (255 : Nat).testBit i = true := by decide
theorem yAl_x {R R' : Int → Int} (hR : zWR R) {p : Nat} (h : zRx R R' p) : zRl R' p (yAl p) 255 := by
  have h8 := hR.2.2.1
  have h5 := h.2.1
  have h6 := h.2.2.1
  refine ⟨?_, fun i hi => ?_⟩
  · rw [yAl_bit p (by omega) p (by omega), decide_eq_false (fun h => h rfl)]
  · have := h.sg hi
    rw [yAl_bit p (by omega) _ (by omega), y255_bit i (by omega), decide_eq_true zSg_ne]
theorem zBi_x {R R' : Int → Int} (hR : zWR R) {p : Nat} (h : zRx R R' p) {D : Int → Bool} {wk q : Int} : zRl R' p (zBi R D (yAl p) wk q) (zBi R' D 255 wk q) := by
  have ha := yAl_x hR h
  refine ⟨?_, fun i hi => ?_⟩
  · unfold zBi
    rw [zmk_bit, ha.1, Bool.and_false, Bool.and_false]
  · unfold zBi
    rw [zmk_bit, zmk_bit, decide_eq_true hi, decide_eq_true (h.sg hi), ← ha.2 i hi, h.1.hq, h.1.q, h.1.dy, h.1.sev, h.1.hol]
    unfold zMy zNt
    rw [h.f hi (f := 0) (by decide) (by decide), h.f hi (f := 3) (by decide) (by decide), h.f hi (f := 4) (by decide) (by decide)]
theorem yWs_x {R R' : Int → Int} (hR : zWR R) {p : Nat} (h : zRx R R' p) {ps : List zP2} {wk : Int} : yWs R' 255 ps wk = yWs R (yAl p) ps wk := by
  unfold yWs yBl yLq
  rw [h.1.q, h.1.d, yW_x h (yAl_x hR h) (fun q => zBi_x hR h), List.length_map, List.length_map]
theorem yPw_x {R R' : Int → Int} (hR : zWR R) {p : Nat} (h : zRx R R' p) {ps : List zP2} : yPw R' 255 ps = yPw R (yAl p) ps := by
  have e : ∀ n : Nat, yPy R' 255 ps n = yPy R (yAl p) ps n := by
    intro n
    induction n with
    | zero => rfl
    | succ n ih =>
      show yPy R' 255 ps n + yWs R' 255 ps (n : Int) = yPy R (yAl p) ps n + yWs R (yAl p) ps (n : Int)
      rw [ih, yWs_x hR h]
  unfold yPw
  rw [e, h.1 4 (by decide) (by decide)]
theorem yPa_x {R R' : Int → Int} (hR : zWR R) {p : Nat} (h : zRx R R' p) {cs : Nat → List zP2} : ∀ n : Nat, yPa R' 255 cs n = yPa R (yAl p) cs n
  | 0 => rfl
  | n + 1 => by
    show yPa R' 255 cs n + yPw R' 255 (zPcs R' (cs n)) = yPa R (yAl p) cs n + yPw R (yAl p) (zPcs R (cs n))
    rw [yPa_x hR h n, h.1.pcs, yPw_x hR h]
