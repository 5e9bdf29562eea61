/-! the constants are apart. By hand. -/
theorem ww_s6_0 : ∀ j, j < 14 → 0 < j → Cond.not (Cond.eq (zTm 0) (zTm j)) ∈ flatC (Jvm.Cond.and given_1 narrow_1) := by decide +kernel
theorem ww_s6_1 : ∀ j, j < 14 → 1 < j → Cond.not (Cond.eq (zTm 1) (zTm j)) ∈ flatC (Jvm.Cond.and given_1 narrow_1) := by decide +kernel
theorem ww_s6_2 : ∀ j, j < 14 → 2 < j → Cond.not (Cond.eq (zTm 2) (zTm j)) ∈ flatC (Jvm.Cond.and given_1 narrow_1) := by decide +kernel
theorem ww_s6_3 : ∀ j, j < 14 → 3 < j → Cond.not (Cond.eq (zTm 3) (zTm j)) ∈ flatC (Jvm.Cond.and given_1 narrow_1) := by decide +kernel
theorem ww_s6_4 : ∀ j, j < 14 → 4 < j → Cond.not (Cond.eq (zTm 4) (zTm j)) ∈ flatC (Jvm.Cond.and given_1 narrow_1) := by decide +kernel
theorem ww_s6_5 : ∀ j, j < 14 → 5 < j → Cond.not (Cond.eq (zTm 5) (zTm j)) ∈ flatC (Jvm.Cond.and given_1 narrow_1) := by decide +kernel
theorem ww_s6_6 : ∀ j, j < 14 → 6 < j → Cond.not (Cond.eq (zTm 6) (zTm j)) ∈ flatC (Jvm.Cond.and given_1 narrow_1) := by decide +kernel
theorem ww_s6_7 : ∀ j, j < 14 → 7 < j → Cond.not (Cond.eq (zTm 7) (zTm j)) ∈ flatC (Jvm.Cond.and given_1 narrow_1) := by decide +kernel
theorem ww_s6_8 : ∀ j, j < 14 → 8 < j → Cond.not (Cond.eq (zTm 8) (zTm j)) ∈ flatC (Jvm.Cond.and given_1 narrow_1) := by decide +kernel
theorem ww_s6_9 : ∀ j, j < 14 → 9 < j → Cond.not (Cond.eq (zTm 9) (zTm j)) ∈ flatC (Jvm.Cond.and given_1 narrow_1) := by decide +kernel
theorem ww_s6_10 : ∀ j, j < 14 → 10 < j → Cond.not (Cond.eq (zTm 10) (zTm j)) ∈ flatC (Jvm.Cond.and given_1 narrow_1) := by decide +kernel
theorem ww_s6_11 : ∀ j, j < 14 → 11 < j → Cond.not (Cond.eq (zTm 11) (zTm j)) ∈ flatC (Jvm.Cond.and given_1 narrow_1) := by decide +kernel
theorem ww_s6_12 : ∀ j, j < 14 → 12 < j → Cond.not (Cond.eq (zTm 12) (zTm j)) ∈ flatC (Jvm.Cond.and given_1 narrow_1) := by decide +kernel
theorem ww_s6a : ∀ i j : Nat, i < 14 → j < 14 → i < j → Cond.not (Cond.eq (zTm i) (zTm j)) ∈ flatC (Jvm.Cond.and given_1 narrow_1) := by
  intro i j hi hj h
  match i with
  | 0 => exact ww_s6_0 j hj h
  | 1 => exact ww_s6_1 j hj h
  | 2 => exact ww_s6_2 j hj h
  | 3 => exact ww_s6_3 j hj h
  | 4 => exact ww_s6_4 j hj h
  | 5 => exact ww_s6_5 j hj h
  | 6 => exact ww_s6_6 j hj h
  | 7 => exact ww_s6_7 j hj h
  | 8 => exact ww_s6_8 j hj h
  | 9 => exact ww_s6_9 j hj h
  | 10 => exact ww_s6_10 j hj h
  | 11 => exact ww_s6_11 j hj h
  | 12 => exact ww_s6_12 j hj h
  | n + 13 => omega
theorem ww_s6 : ∀ i, i < 14 → ∀ j, j < 14 → i ≠ j → Cond.not (Cond.eq (zTm i) (zTm j)) ∈ flatC (Jvm.Cond.and given_1 narrow_1) ∨ Cond.not (Cond.eq (zTm j) (zTm i)) ∈ flatC (Jvm.Cond.and given_1 narrow_1) := by
  intro i hi j hj hn
  rcases Nat.lt_or_gt_of_ne hn with h | h
  · exact Or.inl (ww_s6a i j hi hj h)
  · exact Or.inr (ww_s6a j i hj hi h)
theorem ww_S {args : Array Value} {s : State} (hts : ∀ w ∈ lw_tbl, w.before args s = true) (hgv : (Jvm.Cond.and given_1 narrow_1).before args s = true) : ∃ ad adV : Nat → Nat, zStr ad adV (fun q => s.heap.size ≤ q) s s.heap := by
  have hA : ∀ a : Nat, a < s.heap.size → ¬ s.heap.size ≤ a := fun a h => Nat.not_le.mpr h
  have hs := flat_of_before _ hgv
  have ht : ∀ w ∈ [Cond.laysStatic "java/lang/String" "COMPACT_STRINGS" "Z", .initialized "java/lang/String", .laysStatic "jdk/internal/util/Preconditions" "SIOOBE_FORMATTER" "Ljava/util/function/BiFunction;", .initialized "jdk/internal/util/Preconditions"], w.before args s = true := fun w h => hts w (ww_str w h)
  obtain ⟨ad, adV, h1, h2⟩ := vk_Sof (args := args) (s := s) (N := 14) (tm := zTm) (len := zsLen) (byt := zsByt) (A := fun q => s.heap.size ≤ q) ww_s7 (fun i hi => hs _ (ww_s1 i hi)) (fun i hi => hs _ (ww_s2 i hi)) (fun i hi => hs _ (ww_s3 i hi)) (fun i hi => hs _ (ww_s4 i hi)) (fun i hi j hj => hs _ (ww_s5 i hi j hj)) (fun i j hi hj hn => (ww_s6 i hi j hj hn).imp (hs _) (hs _)) hA
  have hc : (Cond.eq (.static "java/lang/String" "COMPACT_STRINGS" "Z") (.int 1)).before args s = true := hs _ (by decide +kernel)
  obtain ⟨w, g1, g2⟩ := Cond.eq_one (show (Cond.eq (.static "java/lang/String" "COMPACT_STRINGS" "Z") (.int 1)).holds args s none s [] = true from hc)
  have hw : w = .int 1 := (Option.some.inj g2).symm
  subst hw
  exact ⟨ad, adV, h1, fun i hi => vk_R.of (hts _ (ww_ref i hi)) (h2 i hi), va_Zof (ht _ (by simp)) (ht _ (by simp)) g1 hA, va_Zqof (ht _ (by simp)) (ht _ (by simp)) (hs _ (by decide +kernel)) hA⟩
