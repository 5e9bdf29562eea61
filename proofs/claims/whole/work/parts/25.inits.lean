/-! what the constructors make. My own text. -/
def zlkOK (o n : Nat) (v : zHp) : Bool := (List.range n).all fun i => (List.range 40).all fun j => match zlk (zK (o + i)).1 j (o + i) with
  | some d => decide (v (o + i) (j : Int) = (d : Int))
  | none => true
theorem zlk_out {l : List (Option Nat)} {j : Nat} (h : l.length ≤ j) : l.getD j none = none := by
  rw [List.getD_eq_getElem?_getD, List.getElem?_eq_none h]
  rfl
theorem zlk_40 {c j a : Nat} (h : 40 ≤ j) : zlk c j a = none := by
  unfold zlk
  split <;> first | rfl | exact zlk_out (Nat.le_trans (Nat.le_of_ble_eq_true rfl : _ ≤ 40) h) | (rw [if_neg (by omega)])
theorem zlkOK_spec {o n : Nat} {v : zHp} (h : zlkOK o n v = true) : ∀ a : Nat, o ≤ a → a < o + n → ∀ j d : Nat, zlk (zK a).1 j a = some d → v a (j : Int) = (d : Int) := by
  intro a h1 h2 j d hd
  by_cases hj : j < 40
  · have h3 := List.all_eq_true.mp h (a - o) (List.mem_range.mpr (by omega))
    have h4 := List.all_eq_true.mp h3 j (List.mem_range.mpr hj)
    rw [show o + (a - o) = a by omega, hd] at h4
    exact of_decide_eq_true h4
  · rw [zlk_40 (by omega)] at hd
    cases hd
def zvC : zHp := ((fX11_init (zfr z0 0)).getD (z0, 0)).1
def zvM : zHp := ((fX12_init (zfr zvC 137)).getD (z0, 0)).1
theorem init_C1 : (fX11_init (zfr z0 0)).isSome = true := by decide +kernel
theorem init_C : fX11_init (zfr z0 0) = some (zvC, ((fX11_init (zfr z0 0)).getD (z0, 0)).2) := by
  have h := init_C1
  unfold zvC
  cases hq : fX11_init (zfr z0 0) with
  | none => rw [hq] at h; cases h
  | some q => rfl
theorem init_M1 : (fX12_init (zfr zvC 137)).isSome = true := by decide +kernel
theorem init_M : fX12_init (zfr zvC 137) = some (zvM, ((fX12_init (zfr zvC 137)).getD (z0, 0)).2) := by
  have h := init_M1
  unfold zvM
  cases hq : fX12_init (zfr zvC 137) with
  | none => rw [hq] at h; cases h
  | some q => rfl
theorem init_lk : zlkOK 0 137 zvC = true := by decide +kernel
