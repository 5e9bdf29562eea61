/-! THE ABSTRACT HEAP: a cell's slots as whole numbers; and one row a machine's instruction over it. My own text. -/
abbrev zHp : Type := Nat → Int → Int
abbrev zAV : Type := Int ⊕ (Nat ⊕ Nat)
abbrev zi (x : Int) : zAV := Sum.inl x
abbrev zr (a : Nat) : zAV := Sum.inr (Sum.inl a)
abbrev zs (a : Nat) : zAV := Sum.inr (Sum.inr a)
def zI (x : Int) : Int32 := Int32.ofInt x
def zR (x : Int) : Prop := -2147483648 ≤ x ∧ x ≤ 2147483647
def zw (x : Int) : Int := (zI x).toInt
theorem zI_toInt (x : Int32) : zI x.toInt = x := Int32.ofInt_toInt x
theorem zR_toInt (x : Int32) : zR x.toInt := by
  have h1 := Int32.le_toInt x
  have h2 := Int32.toInt_lt x
  unfold zR
  omega
theorem zI_zw (x : Int) : zI (zw x) = zI x := zI_toInt _
theorem zR_zw (x : Int) : zR (zw x) := zR_toInt _
theorem zw_id {x : Int} (h : zR x) : zw x = x := by
  unfold zR at h
  exact Int32.toInt_ofInt_of_le (by show -(2147483648:Int) ≤ x; omega) (by show x < (2147483648:Int); omega)
theorem zI_inj {x y : Int} (hx : zR x) (hy : zR y) (h : zI x = zI y) : x = y := by
  have h1 := congrArg Int32.toInt h
  have h2 : zw x = zw y := h1
  rwa [zw_id hx, zw_id hy] at h2
theorem zI_add (x y : Int) : zI x + zI y = zI (x + y) := (Int32.ofInt_add x y).symm
theorem zI_sub (x y : Int) : zI x - zI y = zI (x - y) := (Int32.ofInt_sub x y).symm
theorem zI_mul (x y : Int) : zI x * zI y = zI (x * y) := (Int32.ofInt_mul x y).symm
theorem zI_lt {x y : Int} (hx : zR x) (hy : zR y) : zI x < zI y ↔ x < y := by
  rw [Int32.lt_iff_toInt_lt]
  show zw x < zw y ↔ _
  rw [zw_id hx, zw_id hy]
theorem zI_le {x y : Int} (hx : zR x) (hy : zR y) : zI x ≤ zI y ↔ x ≤ y := by
  rw [Int32.le_iff_toInt_le]
  show zw x ≤ zw y ↔ _
  rw [zw_id hx, zw_id hy]
theorem zI_eq {x y : Int} (hx : zR x) (hy : zR y) : zI x = zI y ↔ x = y := ⟨zI_inj hx hy, fun h => by rw [h]⟩
theorem zI_0 : (0 : Int32) = zI 0 := rfl
theorem zR_0 : zR 0 := ⟨by decide, by decide⟩
/-- what of two numbers is taken bit by bit, and shifts: as the machine has them -/
def zand (x y : Int) : Int := (zI x &&& zI y).toInt
def zor (x y : Int) : Int := (zI x ||| zI y).toInt
def zxor (x y : Int) : Int := (zI x ^^^ zI y).toInt
def zshl (x y : Int) : Int := (zI x <<< (zI y &&& 31)).toInt
def zshr (x y : Int) : Int := (zI x >>> (zI y &&& 31)).toInt
def zi2b (x : Int) : Int := ((zI x).toInt8.toInt32).toInt
/-- a store -/
def zst (v : zHp) (a : Nat) (j x : Int) : zHp := fun a' j' => if a' = a ∧ j' = j then x else v a' j'
def zck {α : Type} (P : Prop) [Decidable P] (k : Option α) : Option α := if P then k else none
def zb {β α : Type} (x : β) (k : β → Option α) : Option α := k x
def zcl {α : Type} (o : Option (zHp × Int)) (k : zHp → Int → Option α) : Option α := match o with
  | some (v, r) => k v r
  | none => none
def zl {β α : Type} (o : Option (zHp × β)) (k : zHp → β → Option α) : Option α := match o with
  | some (v, r) => k v r
  | none => none
/-- behind a loop that may also end the method -/
def zlr {β γ α : Type} (o : Option ((zHp × Int) ⊕ (zHp × β))) (ri : zHp × Int → γ) (k : zHp → β → Option (γ ⊕ α)) : Option (γ ⊕ α) := match o with
  | some (.inl q) => some (.inl (ri q))
  | some (.inr (v, r)) => k v r
  | none => none
def zlf {β : Type} (o : Option ((zHp × Int) ⊕ (zHp × β))) (k : zHp → β → Option (zHp × Int)) : Option (zHp × Int) := match o with
  | some (.inl q) => some q
  | some (.inr (v, r)) => k v r
  | none => none
theorem zck_some {α : Type} {P : Prop} [Decidable P] {k : Option α} {x : α} (h : zck P k = some x) : P ∧ k = some x := by
  unfold zck at h
  split at h
  · exact ⟨‹P›, h⟩
  · cases h
theorem zck_pos {α : Type} {P : Prop} [Decidable P] {k : Option α} (h : P) : zck P k = k := if_pos h
theorem zcl_some {α : Type} {o : Option (zHp × Int)} {k : zHp → Int → Option α} {x : α} (h : zcl o k = some x) : ∃ v r, o = some (v, r) ∧ k v r = some x := by
  rcases o with _ | ⟨v, r⟩
  · cases h
  · exact ⟨v, r, rfl, h⟩
theorem zl_some {β α : Type} {o : Option (zHp × β)} {k : zHp → β → Option α} {x : α} (h : zl o k = some x) : ∃ v r, o = some (v, r) ∧ k v r = some x := by
  rcases o with _ | ⟨v, r⟩
  · cases h
  · exact ⟨v, r, rfl, h⟩
theorem zlf_some {β : Type} {o : Option ((zHp × Int) ⊕ (zHp × β))} {k : zHp → β → Option (zHp × Int)} {x : zHp × Int} (h : zlf o k = some x) : (o = some (.inl x)) ∨ ∃ v r, o = some (.inr (v, r)) ∧ k v r = some x := by
  rcases o with _ | ⟨q | ⟨v, r⟩⟩
  · cases h
  · exact Or.inl (by cases h; rfl)
  · exact Or.inr ⟨v, r, rfl, h⟩
/-- the steps that a loop is given -/
def zFU : Nat := 1000000
/-! the kinds of the cells (class's number or kind of array, length), by their places; and what a cell is in the machine -/
def zKl : List (Nat × Nat) := [(11, 10), (9, 6), (20, 400), (6, 2), (7, 10), (2, 5), (24, 8), (20, 4), (5, 5), (5, 5), (5, 5), (5, 5), (5, 5), (5, 5), (5, 5), (5, 5), (7, 10), (2, 5), (24, 8), (20, 4), (5, 5), (5, 5), (5, 5), (5, 5), (5, 5), (5, 5), (5, 5), (5, 5), (23, 4), (25, 4), (1, 3), (20, 60), (20, 60), (8, 14), (20, 60), (20, 30), (20, 30), (20, 30), (20, 2692), (20, 2692), (20, 2692), (4, 3), (20, 60), (20, 60), (4, 3), (20, 60), (20, 60), (20, 4), (1, 3), (20, 60), (20, 60), (8, 14), (20, 60), (20, 30), (20, 30), (20, 30), (20, 2692), (20, 2692), (20, 2692), (4, 3), (20, 60), (20, 60), (4, 3), (20, 60), (20, 60), (20, 4), (1, 3), (20, 60), (20, 60), (8, 14), (20, 60), (20, 30), (20, 30), (20, 30), (20, 2692), (20, 2692), (20, 2692), (4, 3), (20, 60), (20, 60), (4, 3), (20, 60), (20, 60), (20, 4), (1, 3), (20, 60), (20, 60), (8, 14), (20, 60), (20, 30), (20, 30), (20, 30), (20, 2692), (20, 2692), (20, 2692), (4, 3), (20, 60), (20, 60), (4, 3), (20, 60), (20, 60), (20, 4), (3, 5), (20, 16), (20, 16), (20, 16), (21, 16), (1, 3), (20, 60), (20, 60), (8, 14), (20, 60), (20, 30), (20, 30), (20, 30), (20, 2692), (20, 2692), (20, 2692), (4, 3), (20, 60), (20, 60), (4, 3), (20, 60), (20, 60), (20, 4), (0, 9), (10, 5), (20, 676), (20, 676), (20, 676), (20, 676), (20, 676), (20, 676), (20, 676), (20, 676), (20, 676), (20, 29068), (12, 38), (22, 400), (20, 51), (20, 51), (20, 4), (20, 244), (20, 244), (20, 64), (20, 61), (20, 31), (20, 31), (21, 2720), (20, 680), (20, 680), (20, 680), (20, 680), (20, 680), (20, 463000), (20, 680), (20, 680), (21, 5520), (20, 8), (21, 8), (21, 2720)]
def zK (a : Nat) : Nat × Nat := zKl.getD a (99, 0)
/-- a field's type: 0 a number, 2 a reference -/
def zft (c j : Nat) : Nat := match c with
  | 0 => [2, 2, 2, 2, 2, 2, 2, 2, 0].getD j 0
  | 1 => [2, 2, 0].getD j 0
  | 2 => [0, 0, 0, 0, 0].getD j 0
  | 3 => [2, 2, 2, 2, 0].getD j 0
  | 4 => [2, 2, 0].getD j 0
  | 5 => [0, 0, 0, 0, 0].getD j 0
  | 6 => [0, 0].getD j 0
  | 7 => [2, 2, 0, 2, 0, 0, 0, 0, 0, 0].getD j 0
  | 8 => [0, 2, 2, 2, 2, 0, 2, 2, 2, 2, 2, 2, 0, 0].getD j 0
  | 9 => [2, 0, 0, 0, 0, 0].getD j 0
  | 10 => [2, 2, 2, 0, 0].getD j 0
  | 11 => [2, 2, 2, 2, 2, 2, 2, 2, 2, 2].getD j 0
  | 12 => [0, 2, 0, 0, 0, 0, 0, 0, 0, 0, 2, 2, 0, 2, 2, 2, 0, 2, 2, 0, 2, 2, 2, 0, 2, 2, 2, 2, 2, 2, 2, 2, 0, 0, 2, 2, 2, 2].getD j 0
  | _ => 0
/-- where a fixed reference leads -/
def zlk (c j a : Nat) : Option Nat := match c with
  | 0 => [some (a + 1), some (a + 5), some (a + 6), some (a + 7), some (a + 8), some (a + 9), some (a + 10), some (a + 11), none].getD j none
  | 1 => [some (a + 1), some (a + 2), none].getD j none
  | 3 => [some (a + 1), some (a + 2), some (a + 3), some (a + 4), none].getD j none
  | 4 => [some (a + 1), some (a + 2), none].getD j none
  | 7 => [some (a + 1), some (a + 2), none, some (a + 3), none, none, none, none, none, none].getD j none
  | 8 => [none, some (a + 1), some (a + 2), some (a + 3), some (a + 4), none, some (a + 5), some (a + 6), some (a + 7), none, none, some (a + 14), none, none].getD j none
  | 9 => [some (a + 1), none, none, none, none, none].getD j none
  | 10 => [some (a + 1), some (a + 2), some (a + 3), none, none].getD j none
  | 11 => [some (a + 1), some (a + 3), none, none, some (a + 28), some (a + 29), some (a + 102), some (a + 107), some (a + 110), some (a + 125)].getD j none
  | 12 => [none, some (a + 1), none, none, none, none, none, none, none, none, some (a + 2), some (a + 3), none, some (a + 4), some (a + 5), some (a + 6), none, some (a + 7), some (a + 8), none, some (a + 9), some (a + 10), some (a + 11), none, some (a + 12), some (a + 13), some (a + 14), some (a + 15), some (a + 16), some (a + 17), some (a + 18), some (a + 19), none, none, some (a + 20), some (a + 21), some (a + 22), some (a + 23)].getD j none
  | 23 => if j < 4 then some (a + (2 + 18 * j)) else none
  | 24 => if j < 8 then some (a + (2 + 1 * j)) else none
  | 25 => if j < 4 then some (a + (4 + 18 * j)) else none
  | _ => none
def zfv (b : Nat) (t : Nat) (x : Int) : Value := if t = 2 then (if x < 0 then .null else .ref (b + x.toNat)) else .int (zI x)
def zec (ids : Nat → ClassId) (b : Nat) (k : Nat × Nat) (row : Int → Int) : va_E :=
  if k.1 < 20 then .inr (k.1, (List.range k.2).map fun j => zfv b (zft k.1 j) (row (j : Int)))
  else if k.1 < 23 then .inl (ids k.1, k.2, .inl fun j => zI (row (j : Int)))
  else .inl (ids k.1, k.2, .inr (.inr (.inr (.inr fun j => if row (j : Int) < 0 then none else some (b + (row (j : Int)).toNat)))))
def zwl (ids : Nat → ClassId) (b o n : Nat) (v : zHp) : va_W := (List.range n).map fun i => (b + (o + i), zec ids b (zK (o + i)) (v (o + i)))
theorem zwl_at' {ids : Nat → ClassId} {b o n : Nat} {v : zHp} {i : Nat} (h : i < n) : (zwl ids b o n v)[i]? = some (b + (o + i), zec ids b (zK (o + i)) (v (o + i))) := by
  simp [zwl, h]
theorem zwl_at {ids : Nat → ClassId} {b o n : Nat} {v : zHp} {a : Nat} (h : o ≤ a) (h2 : a < o + n) : (zwl ids b o n v)[a - o]? = some (b + a, zec ids b (zK a) (v a)) := by
  have e : o + (a - o) = a := by omega
  have := zwl_at' (ids := ids) (b := b) (o := o) (n := n) (v := v) (show a - o < n by omega)
  rw [e] at this
  exact this
theorem zwl_len {ids : Nat → ClassId} {b o n : Nat} {v : zHp} : (zwl ids b o n v).length = n := by simp [zwl]
theorem zwl_set {ids : Nat → ClassId} {b o n : Nat} {v v1 : zHp} {a : Nat} {e : va_E} (h : o ≤ a) (h2 : a < o + n) (he : e = zec ids b (zK a) (v1 a)) (ho : ∀ q, q ≠ a → v1 q = v q) : (zwl ids b o n v).set (a - o) (b + a, e) = zwl ids b o n v1 := by
  subst he
  refine List.ext_getElem? fun j => ?_
  by_cases hj : j = a - o
  · subst hj
    rw [zwl_at h h2, List.getElem?_set_self (by rw [zwl_len]; omega)]
  · rw [List.getElem?_set_ne (Ne.symm hj)]
    by_cases hn : j < n
    · rw [zwl_at' hn, zwl_at' hn, ho (o + j) (by omega)]
    · rw [List.getElem?_eq_none (by rw [zwl_len]; omega), List.getElem?_eq_none (by rw [zwl_len]; omega)]
theorem zwl_D {A : Nat → Prop} {ids : Nat → ClassId} {b o n : Nat} {v : zHp} (hA : ∀ i, i < n → A (b + (o + i))) : va_D A (zwl ids b o n v) := by
  have key : ∀ (k : Nat) (q : Nat × va_E), (zwl ids b o n v)[k]? = some q → k < n ∧ q.1 = b + (o + k) := by
    intro k q hq
    by_cases hn : k < n
    · rw [zwl_at' hn] at hq
      cases hq
      exact ⟨hn, rfl⟩
    · rw [List.getElem?_eq_none (by rw [zwl_len]; omega)] at hq
      cases hq
  refine ⟨fun i j x y hi hj hxy => ?_, fun k q hq => ?_⟩
  · have h1 := (key i x hi).2
    have h2 := (key j y hj).2
    omega
  · obtain ⟨h1, h2⟩ := key k q hq
    rw [h2]
    exact hA k h1
def zA (b o n sz : Nat) : Nat → Prop := fun q => (b + o ≤ q ∧ q < b + (o + n)) ∨ sz ≤ q
abbrev zE : Type := (Program × Launch × Env × Room × State) × (MethodId × Array Value × List Frame × Method × Code) × (va_G × (Nat → ClassId) × Nat × Nat × Prop) × (Heap × (Nat → Prop) × Nat × (State → Prop))
abbrev zEp (E : zE) : Program := E.1.1
abbrev zEl (E : zE) : Launch := E.1.2.1
abbrev zEe (E : zE) : Env := E.1.2.2.1
abbrev zER (E : zE) : Room := E.1.2.2.2.1
abbrev zEs (E : zE) : State := E.1.2.2.2.2
abbrev zEm (E : zE) : MethodId := E.2.1.1
abbrev zEa (E : zE) : Array Value := E.2.1.2.1
abbrev zEbe (E : zE) : List Frame := E.2.1.2.2.1
abbrev zEme (E : zE) : Method := E.2.1.2.2.2.1
abbrev zEc (E : zE) : Code := E.2.1.2.2.2.2
abbrev zED (E : zE) : va_G := E.2.2.1.1
abbrev zEi (E : zE) : Nat → ClassId := E.2.2.1.2.1
abbrev zEb (E : zE) : Nat := E.2.2.1.2.2.1
abbrev zEo (E : zE) : Nat := E.2.2.1.2.2.2.1
abbrev zEz (E : zE) : Prop := E.2.2.1.2.2.2.2
abbrev zEH (E : zE) : Heap := E.2.2.2.1
abbrev zEA (E : zE) : Nat → Prop := E.2.2.2.2.1
abbrev zEN (E : zE) : Nat := E.2.2.2.2.2.1
abbrev zEQ (E : zE) : State → Prop := E.2.2.2.2.2.2
def zxv (b : Nat) (x : zAV) : Value := match x with
  | .inl x => .int (zI x)
  | .inr (.inl a) => .ref (b + a)
  | .inr (.inr a) => .ref a
theorem zxv_cat (b : Nat) (x : zAV) : (zxv b x).category = 1 := by rcases x with x | a | a <;> rfl
/-- the locals that are known, by their places -/
def zpr (b : Nat) (lo : List (Option zAV)) : List (Nat × Value) := (List.range lo.length).filterMap fun k => match lo[k]? with
  | some (some x) => some (k, zxv b x)
  | _ => none
theorem zpr_mem {b : Nat} {lo : List (Option zAV)} {q : Nat × Value} : q ∈ zpr b lo ↔ ∃ x, lo[q.1]? = some (some x) ∧ q.2 = zxv b x := by
  unfold zpr
  rw [List.mem_filterMap]
  constructor
  · rintro ⟨k, hk, h⟩
    split at h
    · cases h
      exact ⟨_, ‹_›, rfl⟩
    · cases h
  · rintro ⟨x, h1, h2⟩
    refine ⟨q.1, List.mem_range.mpr (List.getElem?_eq_some_iff.mp h1).1, ?_⟩
    rw [h1]
    simp [← h2]
def zX (E : zE) (k n nn : Nat) (v : zHp) (pc : Nat) (lo : List (Option zAV)) (st : List zAV) : Prop :=
  ∀ (H : Heap) (locs : List Loc) (ls : Array Slot), va_P (zED E) vwCl (zwl (zEi E) (zEb E) (zEo E) nn v) H → va_S (zEA E) (zEH E) H locs → (zEz E → H.size = zEb E + (zEo E + nn)) → lv_has ls (zEN E) (zpr (zEb E) lo) →
    W (zEp E) (zEl E) (zEe E) (zER E) (zEs E) (zEm E) (zEa E) (zEbe E) (zEme E) (zEc E) H locs k n (zEQ E) (F0 (zEm E) pc ls (st.map (zxv (zEb E))))
def ztys (ids : Nat → ClassId) : List (ClassId × FieldType) := [(ids 20, .int), (ids 21, .boolean), (ids 22, .byte), (ids 23, .object RX1), (ids 24, .object RX5), (ids 25, .object RX8)]
/-- what a method's walk stands on -/
def zC (E : zE) (nn : Nat) (cc : ByteArray) (own : String) (Ts : List Cond) : Prop :=
  (zEp E).tables.exec = Jvm.exec ∧ (zEc E).code = cc ∧ (zEs E).vm.findClass own = some (zEm E).cls ∧ (∀ w ∈ Ts, w.before (zEa E) (zEs E) = true) ∧ va_K (zED E) vwCl (ztys (zEi E)) (zEs E) ∧ (zEme E).locks = false ∧ (zEc E).maxLocals = zEN E ∧ (∀ q, (zEH E).size ≤ q → (zEA E) q) ∧ (∀ i, i < nn → (zEA E) (zEb E + (zEo E + i)))
/-- all that a heap holds fits an int; its fixed links -/
def zV (o n : Nat) (v : zHp) : Prop := (∀ a j, zR (v a j)) ∧ ∀ a, o ≤ a → a < o + n → ∀ j d, zlk (zK a).1 j a = some d → v a (j : Int) = (d : Int)
theorem zst_R {v : zHp} (h : ∀ a j, zR (v a j)) {a : Nat} {j x : Int} (hx : zR x) : ∀ a' j', zR (zst v a j x a' j') := by
  intro a' j'
  unfold zst
  split
  · exact hx
  · exact h a' j'
theorem zV.st {o n : Nat} {v : zHp} (h : zV o n v) {a : Nat} {j x : Int} (hx : zR x) {t : Nat × Nat} (hk : zK a = t) (hL : j < 0 ∨ zlk t.1 j.toNat a = none) : zV o n (zst v a j x) := by
  subst hk
  refine ⟨zst_R h.1 hx, fun a' ha ha2 j' d hd => ?_⟩
  unfold zst
  split
  · rename_i e
    obtain ⟨rfl, rfl⟩ := e
    rcases hL with hL | hL
    · omega
    · rw [Int.toNat_natCast] at hL
      rw [hL] at hd
      cases hd
  · exact h.2 a' ha ha2 j' d hd
/-- a cell's kind, and that it is of the world -/
def zG (E : zE) (nn a t n : Nat) : Prop := zK a = (t, n) ∧ zEo E ≤ a ∧ a < zEo E + nn
theorem zb_some {β α : Type} {x : β} {k : β → Option α} {r : α} (h : zb x k = some r) : ∃ t, t = x ∧ k t = some r := ⟨x, rfl, h⟩
theorem zI_of {t x : Int} (e : t = zw x) : zI x = zI t := by rw [e, zI_zw]
theorem zR_of {t x : Int} (e : t = zw x) : zR t := by rw [e]; exact zR_zw x
theorem zR_and (x y : Int) : zR (zand x y) := zR_toInt _
theorem zR_or (x y : Int) : zR (zor x y) := zR_toInt _
theorem zR_xor (x y : Int) : zR (zxor x y) := zR_toInt _
theorem zR_shl (x y : Int) : zR (zshl x y) := zR_toInt _
theorem zR_shr (x y : Int) : zR (zshr x y) := zR_toInt _
theorem zR_i2b (x : Int) : zR (zi2b x) := zR_toInt _
theorem zR_max {x y : Int} (hx : zR x) (hy : zR y) : zR (max x y) := by unfold zR at *; omega
theorem zR_min {x y : Int} (hx : zR x) (hy : zR y) : zR (min x y) := by unfold zR at *; omega
theorem zR_c (x : Int) (h : decide (-2147483648 ≤ x ∧ x ≤ 2147483647) = true) : zR x := by
  have h2 : -2147483648 ≤ x ∧ x ≤ 2147483647 := of_decide_eq_true h
  exact h2
theorem zR_div {x c : Int} (hx : zR x) (hc : 0 < c) : zR (x.tdiv c) := by
  have h0 : (x.tdiv c).natAbs ≤ x.natAbs := Int.natAbs_tdiv_le_natAbs x c
  unfold zR at *
  have h1 : x ≤ 0 → x.tdiv c ≤ 0 := fun h => by have := Int.tdiv_nonneg (show 0 ≤ -x by omega) (show 0 ≤ c by omega); rw [Int.neg_tdiv] at this; omega
  have h2 : 0 ≤ x → 0 ≤ x.tdiv c := fun h => Int.tdiv_nonneg h (by omega)
  omega
theorem zR_mod {x c : Int} (hc : 0 < c) (hc2 : zR c) : zR (x.tmod c) := by
  have h1 := Int.tmod_lt_of_pos x hc
  have h2 : -c < x.tmod c := by
    have h3 := Int.tmod_lt_of_pos (-x) hc
    rw [Int.neg_tmod] at h3
    omega
  unfold zR at *
  omega
theorem zi2b_ok (x : Int) : (zI (zi2b x)).toInt8.toInt32 = zI (zi2b x) := by
  unfold zi2b
  rw [zI_toInt]
  exact Value.int.inj (pk_nb (zI x))
section ZROWS
variable {E : zE} {nn : Nat} {cc : ByteArray} {own : String} {Ts : List Cond} {k n : Nat} {v : zHp} {pc : Nat} {lo : List (Option zAV)} {st : List zAV}
theorem z_iconst (C : zC E nn cc own Ts) {i : Int} (d : decode cc pc = .ok (.iconst i, 1)) (kk : zX E k n nn v (pc + 1) lo (zi i :: st)) : zX E k n nn v pc lo st :=
  fun H locs ls hP hS hZ hl => lv_iconst C.1 C.2.1 d rfl (kk H locs ls hP hS hZ hl)
theorem z_bipush (C : zC E nn cc own Ts) {i : Int} (hi : (Int8.ofInt i).toInt32 = zI i) (d : decode cc pc = .ok (.bipush i, 2)) (kk : zX E k n nn v (pc + 2) lo (zi i :: st)) : zX E k n nn v pc lo st :=
  fun H locs ls hP hS hZ hl => lv_bipush C.1 C.2.1 d hi (kk H locs ls hP hS hZ hl)
theorem z_sipush (C : zC E nn cc own Ts) {i : Int} (hi : (Int16.ofInt i).toInt32 = zI i) (d : decode cc pc = .ok (.sipush i, 3)) (kk : zX E k n nn v (pc + 3) lo (zi i :: st)) : zX E k n nn v pc lo st :=
  fun H locs ls hP hS hZ hl => lv_sipush C.1 C.2.1 d hi (kk H locs ls hP hS hZ hl)
theorem z_ldc (C : zC E nn cc own Ts) {i : Int} {idx : Nat} {x : Int32} (hx : x = zI i) (hw : Cond.constant own idx x ∈ Ts) (d : decode cc pc = .ok (.ldc idx, 2)) (kk : zX E k n nn v (pc + 2) lo (zi i :: st)) : zX E k n nn v pc lo st := by
  subst hx
  exact fun H locs ls hP hS hZ hl => lv_ldc C.1 C.2.1 C.2.2.1 (C.2.2.2.1 _ hw) d (kk H locs ls hP hS hZ hl)
theorem z_at {ls : Array Slot} {nL b i : Nat} {x : zAV} (hl : lv_has ls nL (zpr b lo)) (h : lo[i]? = some (some x)) : ls[i]? = some (.val (zxv b x)) := hl.2.2 (i, zxv b x) (zpr_mem.mpr ⟨x, h, rfl⟩)
theorem z_iload_n (C : zC E nn cc own Ts) {q : Fin 4} (d : decode cc pc = .ok (.iload_n q, 1)) {x : Int} (h : lo[(q : Nat)]? = some (some (zi x))) (kk : zX E k n nn v (pc + 1) lo (zi x :: st)) : zX E k n nn v pc lo st :=
  fun H locs ls hP hS hZ hl => lv_iload_n C.1 C.2.1 d rfl (z_at hl h) (kk H locs ls hP hS hZ hl)
theorem z_iload (C : zC E nn cc own Ts) {i : Nat} (d : decode cc pc = .ok (.iload i, 2)) {x : Int} (h : lo[i]? = some (some (zi x))) (kk : zX E k n nn v (pc + 2) lo (zi x :: st)) : zX E k n nn v pc lo st :=
  fun H locs ls hP hS hZ hl => lv_iload C.1 C.2.1 d (z_at hl h) (kk H locs ls hP hS hZ hl)
theorem z_aload_n (C : zC E nn cc own Ts) {q : Fin 4} (d : decode cc pc = .ok (.aload_n q, 1)) {a : Nat} (h : lo[(q : Nat)]? = some (some (zr a))) (kk : zX E k n nn v (pc + 1) lo (zr a :: st)) : zX E k n nn v pc lo st :=
  fun H locs ls hP hS hZ hl => lv_aload_n C.1 C.2.1 d rfl (z_at hl h) (kk H locs ls hP hS hZ hl)
theorem z_aload (C : zC E nn cc own Ts) {i : Nat} (d : decode cc pc = .ok (.aload i, 2)) {a : Nat} (h : lo[i]? = some (some (zr a))) (kk : zX E k n nn v (pc + 2) lo (zr a :: st)) : zX E k n nn v pc lo st :=
  fun H locs ls hP hS hZ hl => lv_aload C.1 C.2.1 d (z_at hl h) (kk H locs ls hP hS hZ hl)
/-- the locals behind a store -/
theorem z_put {ls : Array Slot} {nL b i : Nat} {x : zAV} (h : lv_has ls nL ((i, zxv b x) :: (zpr b lo).filter (fun q => !(q.1 == i) && !(q.1 + 1 == i && q.2.category == 2)))) : lv_has ls nL (zpr b (lo.set i (some x))) := by
  refine ⟨h.1, h.2.1, fun q hq => ?_⟩
  obtain ⟨y, h1, h2⟩ := zpr_mem.mp hq
  refine h.2.2 q ?_
  by_cases hi : q.1 = i
  · have h3 : lo.set i (some x) = lo.set i (some x) := rfl
    have hlt : i < lo.length := by
      have := (List.getElem?_eq_some_iff.mp h1).1
      rw [List.length_set] at this
      omega
    rw [hi, List.getElem?_set_self hlt] at h1
    cases h1
    exact List.mem_cons.mpr (Or.inl (by rw [← hi, ← h2]))
  · rw [List.getElem?_set_ne (Ne.symm hi)] at h1
    refine List.mem_cons_of_mem _ (List.mem_filter.mpr ⟨zpr_mem.mpr ⟨y, h1, h2⟩, ?_⟩)
    have h4 : q.2.category = 1 := by rw [h2]; exact zxv_cat b y
    simp [hi, h4]
theorem z_istore_n (C : zC E nn cc own Ts) {q : Fin 4} {x : Int} (d : decode cc pc = .ok (.istore_n q, 1)) (hN : (q : Nat) < zEN E) (kk : zX E k n nn v (pc + 1) (lo.set q (some (zi x))) st) : zX E k n nn v pc lo (zi x :: st) :=
  fun H locs ls hP hS hZ hl => lv_istore_n C.1 C.2.1 d rfl hl hN rfl fun ls' h => kk H locs ls' hP hS hZ (z_put h)
theorem z_istore (C : zC E nn cc own Ts) {i : Nat} {x : Int} (d : decode cc pc = .ok (.istore i, 2)) (hN : i < zEN E) (kk : zX E k n nn v (pc + 2) (lo.set i (some (zi x))) st) : zX E k n nn v pc lo (zi x :: st) :=
  fun H locs ls hP hS hZ hl => lv_istore C.1 C.2.1 d hl hN rfl fun ls' h => kk H locs ls' hP hS hZ (z_put h)
theorem z_astore_n (C : zC E nn cc own Ts) {q : Fin 4} {a : Nat} (d : decode cc pc = .ok (.astore_n q, 1)) (hN : (q : Nat) < zEN E) (kk : zX E k n nn v (pc + 1) (lo.set q (some (zr a))) st) : zX E k n nn v pc lo (zr a :: st) :=
  fun H locs ls hP hS hZ hl => lv_astore_n C.1 C.2.1 d rfl hl hN rfl fun ls' h => kk H locs ls' hP hS hZ (z_put (x := zr a) h)
theorem z_astore (C : zC E nn cc own Ts) {i : Nat} {a : Nat} (d : decode cc pc = .ok (.astore i, 2)) (hN : i < zEN E) (kk : zX E k n nn v (pc + 2) (lo.set i (some (zr a))) st) : zX E k n nn v pc lo (zr a :: st) :=
  fun H locs ls hP hS hZ hl => lv_astore C.1 C.2.1 d hl hN rfl fun ls' h => kk H locs ls' hP hS hZ (z_put (x := zr a) h)
theorem z_iinc (C : zC E nn cc own Ts) {i : Nat} {m x : Int} (d : decode cc pc = .ok (.iinc i m, 3)) (hN : i < zEN E) (h : lo[i]? = some (some (zi x))) (kk : zX E k n nn v (pc + 3) (lo.set i (some (zi (x + m)))) st) : zX E k n nn v pc lo st := by
  intro H locs ls hP hS hZ hl
  obtain ⟨p, hp⟩ := List.getElem?_of_mem (zpr_mem.mpr ⟨_, h, rfl⟩ : (i, zxv (zEb E) (zi x)) ∈ zpr (zEb E) lo)
  refine lv_iinc (k := p) (x := zI x) (v := zI (x + m)) C.1 C.2.1 d hl hp (zI_add x m) hN rfl fun ls' h => kk H locs ls' hP hS hZ (z_put (x := zi (x + m)) h)
theorem z_iincN (C : zC E nn cc own Ts) {i : Nat} {m x t : Int} (d : decode cc pc = .ok (.iinc i m, 3)) (hN : i < zEN E) (h : lo[i]? = some (some (zi x))) (e : t = zw (x + m)) (kk : zX E k n nn v (pc + 3) (lo.set i (some (zi t))) st) : zX E k n nn v pc lo st := by
  intro H locs ls hP hS hZ hl
  obtain ⟨p, hp⟩ := List.getElem?_of_mem (zpr_mem.mpr ⟨_, h, rfl⟩ : (i, zxv (zEb E) (zi x)) ∈ zpr (zEb E) lo)
  refine lv_iinc (k := p) (x := zI x) (v := zI t) C.1 C.2.1 d hl hp ((zI_add x m).trans (zI_of e)) hN rfl fun ls' h => kk H locs ls' hP hS hZ (z_put (x := zi t) h)
theorem z_iadd (C : zC E nn cc own Ts) {x y : Int} (d : decode cc pc = .ok (.iadd, 1)) (kk : zX E k n nn v (pc + 1) lo (zi (x + y) :: st)) : zX E k n nn v pc lo (zi y :: zi x :: st) := by
  intro H locs ls hP hS hZ hl
  refine lv_iadd C.1 C.2.1 d ?_
  rw [zI_add]
  exact kk H locs ls hP hS hZ hl
theorem z_isub (C : zC E nn cc own Ts) {x y : Int} (d : decode cc pc = .ok (.isub, 1)) (kk : zX E k n nn v (pc + 1) lo (zi (x - y) :: st)) : zX E k n nn v pc lo (zi y :: zi x :: st) := by
  intro H locs ls hP hS hZ hl
  refine lv_isub C.1 C.2.1 d ?_
  rw [zI_sub]
  exact kk H locs ls hP hS hZ hl
theorem z_imul (C : zC E nn cc own Ts) {x y : Int} (d : decode cc pc = .ok (.imul, 1)) (kk : zX E k n nn v (pc + 1) lo (zi (x * y) :: st)) : zX E k n nn v pc lo (zi y :: zi x :: st) := by
  intro H locs ls hP hS hZ hl
  refine lv_imul C.1 C.2.1 d ?_
  rw [zI_mul]
  exact kk H locs ls hP hS hZ hl
theorem z_iand (C : zC E nn cc own Ts) {x y : Int} (d : decode cc pc = .ok (.iand, 1)) (kk : zX E k n nn v (pc + 1) lo (zi (zand x y) :: st)) : zX E k n nn v pc lo (zi y :: zi x :: st) := by
  intro H locs ls hP hS hZ hl
  refine lv_iand C.1 C.2.1 d ?_
  rw [← zI_toInt (zI x &&& zI y)]
  exact kk H locs ls hP hS hZ hl
theorem z_ior (C : zC E nn cc own Ts) {x y : Int} (d : decode cc pc = .ok (.ior, 1)) (kk : zX E k n nn v (pc + 1) lo (zi (zor x y) :: st)) : zX E k n nn v pc lo (zi y :: zi x :: st) := by
  intro H locs ls hP hS hZ hl
  refine lv_ior C.1 C.2.1 d ?_
  rw [← zI_toInt (zI x ||| zI y)]
  exact kk H locs ls hP hS hZ hl
theorem z_ixor (C : zC E nn cc own Ts) {x y : Int} (d : decode cc pc = .ok (.ixor, 1)) (kk : zX E k n nn v (pc + 1) lo (zi (zxor x y) :: st)) : zX E k n nn v pc lo (zi y :: zi x :: st) := by
  intro H locs ls hP hS hZ hl
  refine lv_ixor C.1 C.2.1 d ?_
  rw [← zI_toInt (zI x ^^^ zI y)]
  exact kk H locs ls hP hS hZ hl
theorem z_ishl (C : zC E nn cc own Ts) {x y : Int} (d : decode cc pc = .ok (.ishl, 1)) (kk : zX E k n nn v (pc + 1) lo (zi (zshl x y) :: st)) : zX E k n nn v pc lo (zi y :: zi x :: st) := by
  intro H locs ls hP hS hZ hl
  refine lv_ishl C.1 C.2.1 d ?_
  rw [← zI_toInt (zI x <<< (zI y &&& 31))]
  exact kk H locs ls hP hS hZ hl
theorem z_ishr (C : zC E nn cc own Ts) {x y : Int} (d : decode cc pc = .ok (.ishr, 1)) (kk : zX E k n nn v (pc + 1) lo (zi (zshr x y) :: st)) : zX E k n nn v pc lo (zi y :: zi x :: st) := by
  intro H locs ls hP hS hZ hl
  refine lv_ishr C.1 C.2.1 d ?_
  rw [← zI_toInt (zI x >>> (zI y &&& 31))]
  exact kk H locs ls hP hS hZ hl
theorem z_i2b (C : zC E nn cc own Ts) {x : Int} (d : decode cc pc = .ok (.i2b, 1)) (kk : zX E k n nn v (pc + 1) lo (zi (zi2b x) :: st)) : zX E k n nn v pc lo (zi x :: st) := by
  intro H locs ls hP hS hZ hl
  refine lv_i2b C.1 C.2.1 d rfl ?_
  rw [← zI_toInt ((zI x).toInt8.toInt32)]
  exact kk H locs ls hP hS hZ hl
theorem zI_div {x c : Int} (hx : zR x) (hc : 0 < c) (hc2 : zR c) : zI x / zI c = zI (x.tdiv c) := by
  have hxv : (zI x).toInt = x := zw_id hx
  have hcv : (zI c).toInt = c := zw_id hc2
  have h0 : (x.tdiv c).natAbs ≤ x.natAbs := Int.natAbs_tdiv_le_natAbs x c
  have hR : zR (x.tdiv c) := by
    unfold zR at hx ⊢
    have h1 : x ≤ 0 → x.tdiv c ≤ 0 := fun h => by have := Int.tdiv_nonneg (show 0 ≤ -x by omega) (show 0 ≤ c by omega); rw [Int.neg_tdiv] at this; omega
    have h2 : 0 ≤ x → 0 ≤ x.tdiv c := fun h => Int.tdiv_nonneg h (by omega)
    omega
  apply Int32.toInt_inj.mp
  rw [Int32.toInt_div_of_ne_right _ _ (fun h => by rw [h] at hcv; have : (-1 : Int32).toInt = -1 := rfl; omega), hxv, hcv]
  exact (zw_id hR).symm
theorem z_idiv (C : zC E nn cc own Ts) {x c : Int} (hx : zR x) (hc : 0 < c) (hc2 : zR c) (d : decode cc pc = .ok (.idiv, 1)) (kk : zX E k n nn v (pc + 1) lo (zi (x.tdiv c) :: st)) : zX E k n nn v pc lo (zi c :: zi x :: st) := by
  intro H locs ls hP hS hZ hl
  refine lv_idiv C.1 C.2.1 d (fun h => ?_) ?_
  · have := zI_inj hc2 zR_0 (h.trans zI_0)
    omega
  · rw [zI_div hx hc hc2]
    exact kk H locs ls hP hS hZ hl
theorem z_irem (C : zC E nn cc own Ts) {x c : Int} (hx : zR x) (hc : 0 < c) (hc2 : zR c) (d : decode cc pc = .ok (.irem, 1)) (kk : zX E k n nn v (pc + 1) lo (zi (x.tmod c) :: st)) : zX E k n nn v pc lo (zi c :: zi x :: st) := by
  intro H locs ls hP hS hZ hl
  refine lv_irem C.1 C.2.1 d (fun h => ?_) ?_
  · have := zI_inj hc2 zR_0 (h.trans zI_0)
    omega
  · have e : x - x.tdiv c * c = x.tmod c := by
      have := Int.tmod_add_mul_tdiv x c
      rw [Int.mul_comm] at this
      omega
    rw [zI_div hx hc hc2, zI_mul, zI_sub, e]
    exact kk H locs ls hP hS hZ hl
/-- a number by its remainder: at the stack's first, second, third place -/
theorem z_n0 {x y : Int} (h : zI x = zI y) (kk : zX E k n nn v pc lo (zi y :: st)) : zX E k n nn v pc lo (zi x :: st) := by
  intro H locs ls hP hS hZ hl
  have := kk H locs ls hP hS hZ hl
  simpa only [List.map_cons, zxv, h] using this
theorem z_n1 {x y : Int} {a : zAV} (h : zI x = zI y) (kk : zX E k n nn v pc lo (a :: zi y :: st)) : zX E k n nn v pc lo (a :: zi x :: st) := by
  intro H locs ls hP hS hZ hl
  have := kk H locs ls hP hS hZ hl
  simpa only [List.map_cons, zxv, h] using this
theorem z_n2 {x y : Int} {a b : zAV} (h : zI x = zI y) (kk : zX E k n nn v pc lo (a :: b :: zi y :: st)) : zX E k n nn v pc lo (a :: b :: zi x :: st) := by
  intro H locs ls hP hS hZ hl
  have := kk H locs ls hP hS hZ hl
  simpa only [List.map_cons, zxv, h] using this
/-- fewer locals are known -/
def zsub : List (Option zAV) → List (Option zAV) → Prop
  | [], _ => True
  | none :: t, _ :: u => zsub t u
  | some x :: t, some y :: u => x = y ∧ zsub t u
  | none :: t, [] => zsub t []
  | some _ :: _, [] => False
  | some _ :: _, none :: _ => False
theorem zsub_at : ∀ {l m : List (Option zAV)}, zsub l m → ∀ (i : Nat) (x : zAV), l[i]? = some (some x) → m[i]? = some (some x)
  | [], _, _, i, x, h => by simp at h
  | none :: t, _ :: u, hs, i, x, h => by
    cases i with
    | zero => simp at h
    | succ i => exact zsub_at (l := t) (m := u) hs i x (by simpa using h)
  | some y :: t, some z :: u, hs, i, x, h => by
    obtain ⟨rfl, hs⟩ := hs
    cases i with
    | zero => exact h
    | succ i => exact zsub_at (l := t) (m := u) hs i x (by simpa using h)
  | none :: t, [], hs, i, x, h => by
    cases i with
    | zero => simp at h
    | succ i => have := zsub_at (l := t) (m := []) hs i x (by simpa using h); simp at this
  | some _ :: _, [], hs, _, _, _ => hs.elim
  | some _ :: _, none :: _, hs, _, _, _ => hs.elim
theorem z_sub {lo' : List (Option zAV)} (hs : zsub lo' lo) (kk : zX E k n nn v pc lo' st) : zX E k n nn v pc lo st :=
  fun H locs ls hP hS hZ hl => kk H locs ls hP hS hZ ⟨hl.1, hl.2.1, fun q hq => by
    obtain ⟨x, h1, h2⟩ := zpr_mem.mp hq
    exact hl.2.2 q (zpr_mem.mpr ⟨x, zsub_at hs _ _ h1, h2⟩)⟩
theorem z_goto (C : zC E nn cc own Ts) {off : Int} {tgt : Nat} (d : decode cc pc = .ok (.goto off, 3)) (ht : (pc : Int) + off = (tgt : Int)) (kk : zX E k n nn v tgt lo st) : zX E k n nn v pc lo st :=
  fun H locs ls hP hS hZ hl => lv_goto C.1 C.2.1 d ht (kk H locs ls hP hS hZ hl)
theorem z_dup (C : zC E nn cc own Ts) {x : zAV} (d : decode cc pc = .ok (.dup, 1)) (kk : zX E k n nn v (pc + 1) lo (x :: x :: st)) : zX E k n nn v pc lo (x :: st) :=
  fun H locs ls hP hS hZ hl => lv_dup C.1 C.2.1 d (zxv_cat _ x) (kk H locs ls hP hS hZ hl)
theorem z_dup2 (C : zC E nn cc own Ts) {x y : zAV} (d : decode cc pc = .ok (.dup2, 1)) (kk : zX E k n nn v (pc + 1) lo (x :: y :: x :: y :: st)) : zX E k n nn v pc lo (x :: y :: st) :=
  fun H locs ls hP hS hZ hl => lv_dup2_11 C.1 C.2.1 d (zxv_cat _ x) (zxv_cat _ y) (kk H locs ls hP hS hZ hl)
theorem z_pop (C : zC E nn cc own Ts) {x : zAV} (d : decode cc pc = .ok (.pop, 1)) (kk : zX E k n nn v (pc + 1) lo st) : zX E k n nn v pc lo (x :: st) :=
  fun H locs ls hP hS hZ hl => lv_pop C.1 C.2.1 d (zxv_cat _ x) (kk H locs ls hP hS hZ hl)
theorem z_if_eq (C : zC E nn cc own Ts) {x : Int} {off : Int} {tgt : Nat} {α : Type} {X Y : Option α} {res : α} (hx : zR x) (d : decode cc pc = .ok (.ifCond .eq off, 3)) (ht : (pc : Int) + off = (tgt : Int)) (h : (if x = 0 then X else Y) = some res) (kt : X = some res → zX E k n nn v tgt lo st) (kf : Y = some res → zX E k n nn v (pc + 3) lo st) : zX E k n nn v pc lo (zi x :: st) :=
  fun H locs ls hP hS hZ hl => lv_if_eq C.1 C.2.1 d ht (fun c => kt (by rw [if_pos ((zI_eq hx zR_0).mp c)] at h; exact h) H locs ls hP hS hZ hl) (fun c => kf (by rw [if_neg (fun q => c ((zI_eq hx zR_0).mpr q))] at h; exact h) H locs ls hP hS hZ hl)
theorem z_icmp_eq (C : zC E nn cc own Ts) {x y : Int} {off : Int} {tgt : Nat} {α : Type} {X Y : Option α} {res : α} (hx : zR x) (hy : zR y) (d : decode cc pc = .ok (.if_icmp .eq off, 3)) (ht : (pc : Int) + off = (tgt : Int)) (h : (if x = y then X else Y) = some res) (kt : X = some res → zX E k n nn v tgt lo st) (kf : Y = some res → zX E k n nn v (pc + 3) lo st) : zX E k n nn v pc lo (zi y :: zi x :: st) :=
  fun H locs ls hP hS hZ hl => lv_icmp_eq C.1 C.2.1 d ht (fun c => kt (by rw [if_pos ((zI_eq hx hy).mp c)] at h; exact h) H locs ls hP hS hZ hl) (fun c => kf (by rw [if_neg (fun q => c ((zI_eq hx hy).mpr q))] at h; exact h) H locs ls hP hS hZ hl)
theorem z_if_ne (C : zC E nn cc own Ts) {x : Int} {off : Int} {tgt : Nat} {α : Type} {X Y : Option α} {res : α} (hx : zR x) (d : decode cc pc = .ok (.ifCond .ne off, 3)) (ht : (pc : Int) + off = (tgt : Int)) (h : (if x ≠ 0 then X else Y) = some res) (kt : X = some res → zX E k n nn v tgt lo st) (kf : Y = some res → zX E k n nn v (pc + 3) lo st) : zX E k n nn v pc lo (zi x :: st) :=
  fun H locs ls hP hS hZ hl => lv_if_ne C.1 C.2.1 d ht (fun c => kt (by rw [if_pos ((not_congr (zI_eq hx zR_0)).mp c)] at h; exact h) H locs ls hP hS hZ hl) (fun c => kf (by rw [if_neg (fun q => q ((zI_eq hx zR_0).mp c))] at h; exact h) H locs ls hP hS hZ hl)
theorem z_icmp_ne (C : zC E nn cc own Ts) {x y : Int} {off : Int} {tgt : Nat} {α : Type} {X Y : Option α} {res : α} (hx : zR x) (hy : zR y) (d : decode cc pc = .ok (.if_icmp .ne off, 3)) (ht : (pc : Int) + off = (tgt : Int)) (h : (if x ≠ y then X else Y) = some res) (kt : X = some res → zX E k n nn v tgt lo st) (kf : Y = some res → zX E k n nn v (pc + 3) lo st) : zX E k n nn v pc lo (zi y :: zi x :: st) :=
  fun H locs ls hP hS hZ hl => lv_icmp_ne C.1 C.2.1 d ht (fun c => kt (by rw [if_pos ((not_congr (zI_eq hx hy)).mp c)] at h; exact h) H locs ls hP hS hZ hl) (fun c => kf (by rw [if_neg (fun q => q ((zI_eq hx hy).mp c))] at h; exact h) H locs ls hP hS hZ hl)
theorem z_if_lt (C : zC E nn cc own Ts) {x : Int} {off : Int} {tgt : Nat} {α : Type} {X Y : Option α} {res : α} (hx : zR x) (d : decode cc pc = .ok (.ifCond .lt off, 3)) (ht : (pc : Int) + off = (tgt : Int)) (h : (if x < 0 then X else Y) = some res) (kt : X = some res → zX E k n nn v tgt lo st) (kf : Y = some res → zX E k n nn v (pc + 3) lo st) : zX E k n nn v pc lo (zi x :: st) :=
  fun H locs ls hP hS hZ hl => lv_if_lt C.1 C.2.1 d ht (fun c => kt (by rw [if_pos ((zI_lt hx zR_0).mp c)] at h; exact h) H locs ls hP hS hZ hl) (fun c => kf (by rw [if_neg (fun q => c ((zI_lt hx zR_0).mpr q))] at h; exact h) H locs ls hP hS hZ hl)
theorem z_icmp_lt (C : zC E nn cc own Ts) {x y : Int} {off : Int} {tgt : Nat} {α : Type} {X Y : Option α} {res : α} (hx : zR x) (hy : zR y) (d : decode cc pc = .ok (.if_icmp .lt off, 3)) (ht : (pc : Int) + off = (tgt : Int)) (h : (if x < y then X else Y) = some res) (kt : X = some res → zX E k n nn v tgt lo st) (kf : Y = some res → zX E k n nn v (pc + 3) lo st) : zX E k n nn v pc lo (zi y :: zi x :: st) :=
  fun H locs ls hP hS hZ hl => lv_icmp_lt C.1 C.2.1 d ht (fun c => kt (by rw [if_pos ((zI_lt hx hy).mp c)] at h; exact h) H locs ls hP hS hZ hl) (fun c => kf (by rw [if_neg (fun q => c ((zI_lt hx hy).mpr q))] at h; exact h) H locs ls hP hS hZ hl)
theorem z_if_ge (C : zC E nn cc own Ts) {x : Int} {off : Int} {tgt : Nat} {α : Type} {X Y : Option α} {res : α} (hx : zR x) (d : decode cc pc = .ok (.ifCond .ge off, 3)) (ht : (pc : Int) + off = (tgt : Int)) (h : (if 0 ≤ x then X else Y) = some res) (kt : X = some res → zX E k n nn v tgt lo st) (kf : Y = some res → zX E k n nn v (pc + 3) lo st) : zX E k n nn v pc lo (zi x :: st) :=
  fun H locs ls hP hS hZ hl => lv_if_ge C.1 C.2.1 d ht (fun c => kt (by rw [if_pos ((zI_le zR_0 hx).mp c)] at h; exact h) H locs ls hP hS hZ hl) (fun c => kf (by rw [if_neg (fun q => c ((zI_le zR_0 hx).mpr q))] at h; exact h) H locs ls hP hS hZ hl)
theorem z_icmp_ge (C : zC E nn cc own Ts) {x y : Int} {off : Int} {tgt : Nat} {α : Type} {X Y : Option α} {res : α} (hx : zR x) (hy : zR y) (d : decode cc pc = .ok (.if_icmp .ge off, 3)) (ht : (pc : Int) + off = (tgt : Int)) (h : (if y ≤ x then X else Y) = some res) (kt : X = some res → zX E k n nn v tgt lo st) (kf : Y = some res → zX E k n nn v (pc + 3) lo st) : zX E k n nn v pc lo (zi y :: zi x :: st) :=
  fun H locs ls hP hS hZ hl => lv_icmp_ge C.1 C.2.1 d ht (fun c => kt (by rw [if_pos ((zI_le hy hx).mp c)] at h; exact h) H locs ls hP hS hZ hl) (fun c => kf (by rw [if_neg (fun q => c ((zI_le hy hx).mpr q))] at h; exact h) H locs ls hP hS hZ hl)
theorem z_if_gt (C : zC E nn cc own Ts) {x : Int} {off : Int} {tgt : Nat} {α : Type} {X Y : Option α} {res : α} (hx : zR x) (d : decode cc pc = .ok (.ifCond .gt off, 3)) (ht : (pc : Int) + off = (tgt : Int)) (h : (if 0 < x then X else Y) = some res) (kt : X = some res → zX E k n nn v tgt lo st) (kf : Y = some res → zX E k n nn v (pc + 3) lo st) : zX E k n nn v pc lo (zi x :: st) :=
  fun H locs ls hP hS hZ hl => lv_if_gt C.1 C.2.1 d ht (fun c => kt (by rw [if_pos ((zI_lt zR_0 hx).mp c)] at h; exact h) H locs ls hP hS hZ hl) (fun c => kf (by rw [if_neg (fun q => c ((zI_lt zR_0 hx).mpr q))] at h; exact h) H locs ls hP hS hZ hl)
theorem z_icmp_gt (C : zC E nn cc own Ts) {x y : Int} {off : Int} {tgt : Nat} {α : Type} {X Y : Option α} {res : α} (hx : zR x) (hy : zR y) (d : decode cc pc = .ok (.if_icmp .gt off, 3)) (ht : (pc : Int) + off = (tgt : Int)) (h : (if y < x then X else Y) = some res) (kt : X = some res → zX E k n nn v tgt lo st) (kf : Y = some res → zX E k n nn v (pc + 3) lo st) : zX E k n nn v pc lo (zi y :: zi x :: st) :=
  fun H locs ls hP hS hZ hl => lv_icmp_gt C.1 C.2.1 d ht (fun c => kt (by rw [if_pos ((zI_lt hy hx).mp c)] at h; exact h) H locs ls hP hS hZ hl) (fun c => kf (by rw [if_neg (fun q => c ((zI_lt hy hx).mpr q))] at h; exact h) H locs ls hP hS hZ hl)
theorem z_if_le (C : zC E nn cc own Ts) {x : Int} {off : Int} {tgt : Nat} {α : Type} {X Y : Option α} {res : α} (hx : zR x) (d : decode cc pc = .ok (.ifCond .le off, 3)) (ht : (pc : Int) + off = (tgt : Int)) (h : (if x ≤ 0 then X else Y) = some res) (kt : X = some res → zX E k n nn v tgt lo st) (kf : Y = some res → zX E k n nn v (pc + 3) lo st) : zX E k n nn v pc lo (zi x :: st) :=
  fun H locs ls hP hS hZ hl => lv_if_le C.1 C.2.1 d ht (fun c => kt (by rw [if_pos ((zI_le hx zR_0).mp c)] at h; exact h) H locs ls hP hS hZ hl) (fun c => kf (by rw [if_neg (fun q => c ((zI_le hx zR_0).mpr q))] at h; exact h) H locs ls hP hS hZ hl)
theorem z_icmp_le (C : zC E nn cc own Ts) {x y : Int} {off : Int} {tgt : Nat} {α : Type} {X Y : Option α} {res : α} (hx : zR x) (hy : zR y) (d : decode cc pc = .ok (.if_icmp .le off, 3)) (ht : (pc : Int) + off = (tgt : Int)) (h : (if x ≤ y then X else Y) = some res) (kt : X = some res → zX E k n nn v tgt lo st) (kf : Y = some res → zX E k n nn v (pc + 3) lo st) : zX E k n nn v pc lo (zi y :: zi x :: st) :=
  fun H locs ls hP hS hZ hl => lv_icmp_le C.1 C.2.1 d ht (fun c => kt (by rw [if_pos ((zI_le hx hy).mp c)] at h; exact h) H locs ls hP hS hZ hl) (fun c => kf (by rw [if_neg (fun q => c ((zI_le hx hy).mpr q))] at h; exact h) H locs ls hP hS hZ hl)
end ZROWS
