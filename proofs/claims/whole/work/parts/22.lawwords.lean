/-! the start's words: what the law's entry gives. By hand (wip/whole/parts). -/
theorem ww_arr {args : Array Value} {s : State} {ty : FieldType} (h : (Cond.arrayClass ty).before args s = true) : ∃ cA : ClassId, ArrOfT s cA ty ∧ s.vm.findClass ("[" ++ ty.toString) = some cA := by
  obtain ⟨c, k, comp, h1, h2, h3⟩ := Cond.arrayClass_spec h
  exact ⟨c, fun N z => ⟨(fun k h => by cases h), k, h2, comp, h3⟩, h1⟩
theorem ww_obj {args : Array Value} {s : State} {C : String} (h : (Cond.arrayOver (.object C)).before args s = true) : ∃ cA : ClassId, ArrOfT s cA (.object C) ∧ va_RA s cA (.object C) := by
  obtain ⟨comp, c, k, h1, h2, h3, h4, h5⟩ := Cond.arrayOver_spec h
  exact ⟨c, fun N z => ⟨(fun k h => by cases h), k, h3, comp, h4⟩, k, comp, h3, h4, h1, h5⟩
theorem ww_over : ∀ w ∈ [Cond.arrayOver (.object RX1), Cond.arrayOver (.object RX5), Cond.arrayOver (.object RX8)], w ∈ lw_tbl := by decide +kernel
theorem ww_nest : ∀ q ∈ zbn, Cond.methodLinkNest q.1 q.2.1 q.2.2.1 q.2.2.2 ∈ lw_tbl := by decide +kernel
theorem ww_thr : ∀ w ∈ [Cond.castable zNS zNS, .declares (Bundle.init0 "java/lang/RuntimeException"), .declares (Bundle.init0 "java/lang/Exception"), .declares (Bundle.init0 Bundle.tN), .laysStatic Bundle.tN "UNASSIGNED_STACK" Bundle.steD, .laysStatic Bundle.tN "SUPPRESSED_SENTINEL" Bundle.listD, .initialized Bundle.tN], w ∈ lw_tbl := by decide +kernel
theorem ww_str : ∀ w ∈ [Cond.laysStatic "java/lang/String" "COMPACT_STRINGS" "Z", .initialized "java/lang/String", .laysStatic "jdk/internal/util/Preconditions" "SIOOBE_FORMATTER" "Ljava/util/function/BiFunction;", .initialized "jdk/internal/util/Preconditions"], w ∈ lw_tbl := by decide +kernel
theorem ww_ref : ∀ i, i < 14 → Cond.stringRef RX6 (zsIdx.getD i 0) (zsTxt.getD i "") ∈ lw_tbl := by decide +kernel
theorem ww_K {args : Array Value} {s : State} (hts : ∀ w ∈ lw_tbl, w.before args s = true) : ∃ (D : va_G) (ids : Nat → ClassId) (idJ : ClassId), va_K D vwCl (ztysL ids idJ) s := by
  have hz : ∀ w ∈ zbig, w.before args s = true := fun w h => hts w (zbig_in h)
  have key : ∀ c : Nat, ∃ (cC : ClassId) (iS : Nat → Nat), ∀ q : vw_C, vwCl[c]? = some q → u_Kn s q.1 q.2.1 q.2.2 cC iS := by
    intro c
    match c with
    | 0 =>
      obtain ⟨cC, iS, h⟩ := u_known (N := 9) hz zin_0 (hz _ zwd_337)
      exact ⟨cC, iS, fun q hq => by cases hq; exact h⟩
    | 1 =>
      obtain ⟨cC, iS, h⟩ := u_known (N := 3) hz zin_1 (hz _ zwd_210)
      exact ⟨cC, iS, fun q hq => by cases hq; exact h⟩
    | 2 =>
      obtain ⟨cC, iS, h⟩ := u_known (N := 5) hz zin_2 (hz _ zwd_80)
      exact ⟨cC, iS, fun q hq => by cases hq; exact h⟩
    | 3 =>
      obtain ⟨cC, iS, h⟩ := u_known (N := 5) hz zin_3 (hz _ zwd_309)
      exact ⟨cC, iS, fun q hq => by cases hq; exact h⟩
    | 4 =>
      obtain ⟨cC, iS, h⟩ := u_known (N := 3) hz zin_4 (hz _ zwd_237)
      exact ⟨cC, iS, fun q hq => by cases hq; exact h⟩
    | 5 =>
      obtain ⟨cC, iS, h⟩ := u_known (N := 5) hz zin_5 (hz _ zwd_106)
      exact ⟨cC, iS, fun q hq => by cases hq; exact h⟩
    | 6 =>
      obtain ⟨cC, iS, h⟩ := u_known (N := 2) hz zin_6 (hz _ zwd_61)
      exact ⟨cC, iS, fun q hq => by cases hq; exact h⟩
    | 7 =>
      obtain ⟨cC, iS, h⟩ := u_known (N := 10) hz zin_7 (hz _ zwd_74)
      exact ⟨cC, iS, fun q hq => by cases hq; exact h⟩
    | 8 =>
      obtain ⟨cC, iS, h⟩ := u_known (N := 14) hz zin_8 (hz _ zwd_231)
      exact ⟨cC, iS, fun q hq => by cases hq; exact h⟩
    | 9 =>
      obtain ⟨cC, iS, h⟩ := u_known (N := 6) hz zin_9 (hz _ zwd_32)
      exact ⟨cC, iS, fun q hq => by cases hq; exact h⟩
    | 10 =>
      obtain ⟨cC, iS, h⟩ := u_known (N := 5) hz zin_10 (hz _ zwd_343)
      exact ⟨cC, iS, fun q hq => by cases hq; exact h⟩
    | 11 =>
      obtain ⟨cC, iS, h⟩ := u_known (N := 10) hz zin_11 (hz _ zwd_24)
      exact ⟨cC, iS, fun q hq => by cases hq; exact h⟩
    | 12 =>
      obtain ⟨cC, iS, h⟩ := u_known (N := 38) hz zin_12 (hz _ zwd_974)
      exact ⟨cC, iS, fun q hq => by cases hq; exact h⟩
    | n + 13 => exact ⟨0, fun _ => 0, fun q hq => by cases hq⟩
  obtain ⟨cI, a1, a2⟩ := ww_arr (hz _ zwd_59)
  obtain ⟨cZ, b1, b2⟩ := ww_arr (hz _ zwd_335)
  obtain ⟨cB, c1, c2⟩ := ww_arr (hz _ zwd_596)
  obtain ⟨cJ, d1, d2⟩ := ww_arr (hz _ zwd_1403)
  obtain ⟨o1, e1, e2⟩ := ww_obj (hts _ (ww_over _ (by simp)))  (C := RX1)
  obtain ⟨o5, f1, f2⟩ := ww_obj (hts _ (ww_over _ (by simp))) (C := RX5)
  obtain ⟨o8, g1, g2⟩ := ww_obj (hts _ (ww_over _ (by simp))) (C := RX8)
  refine ⟨(fun c => Classical.choose (key c), fun c => Classical.choose (Classical.choose_spec (key c))), fun k => if k = 20 then cI else if k = 21 then cZ else if k = 22 then cB else if k = 23 then o1 else if k = 24 then o5 else o8, cJ, fun c q hq => Classical.choose_spec (Classical.choose_spec (key c)) q hq, fun k q hq => ?_⟩
  match k with
  | 0 => cases hq; exact ⟨a1, a2⟩
  | 1 => cases hq; exact ⟨b1, b2⟩
  | 2 => cases hq; exact ⟨c1, c2⟩
  | 3 => cases hq; exact ⟨e1, e2⟩
  | 4 => cases hq; exact ⟨f1, f2⟩
  | 5 => cases hq; exact ⟨g1, g2⟩
  | 6 => cases hq; exact ⟨d1, d2⟩
  | n + 7 => cases hq
theorem arrayOver_any {args : Array Value} {s : State} {C : String} (h : (Cond.arrayOver (.object C)).before args s = true) : va_AO C s := va_AO.of h
theorem ww_N {args : Array Value} {s : State} (hts : ∀ w ∈ lw_tbl, w.before args s = true) : zNw s := by
  refine ⟨fun q hq => va_Nw.of rfl (hts _ (ww_nest q hq)), ?_, ?_, ?_⟩
  · exact arrayOver_any (hts _ (ww_over _ (by simp)))
  · exact arrayOver_any (hts _ (ww_over _ (by simp)))
  · exact arrayOver_any (hts _ (ww_over _ (by simp)))
theorem ww_T {args : Array Value} {s : State} (hts : ∀ w ∈ lw_tbl, w.before args s = true) (hgv : (Jvm.Cond.and given_1 narrow_1).before args s = true) : zTw (fun q => s.heap.size ≤ q) s s.heap := by
  have hA : ∀ a : Nat, a < s.heap.size → ¬ s.heap.size ≤ a := fun a h => Nat.not_le.mpr h
  have hs := flat_of_before _ hgv
  have ht : ∀ w ∈ [Cond.castable zNS zNS, .declares (Bundle.init0 "java/lang/RuntimeException"), .declares (Bundle.init0 "java/lang/Exception"), .declares (Bundle.init0 Bundle.tN), .laysStatic Bundle.tN "UNASSIGNED_STACK" Bundle.steD, .laysStatic Bundle.tN "SUPPRESSED_SENTINEL" Bundle.listD, .initialized Bundle.tN], w.before args s = true := fun w h => hts w (ww_thr w h)
  refine ⟨⟨va_Nw.of rfl (ht _ (by simp)), va_Nw.of rfl (ht _ (by simp)), va_Nw.of rfl (ht _ (by simp)), va_Nw.of rfl (ht _ (by simp))⟩, vx_Zqof (ht _ (by simp)) (ht _ (by simp)) (hs _ (by decide +kernel)) hA, vx_Zqof (ht _ (by simp)) (ht _ (by simp)) (hs _ (by decide +kernel)) hA⟩
def zTm (i : Nat) : Term := Term.string RX6 (zsIdx.getD i 0)
theorem ww_s1 : ∀ i, i < 14 → Cond.exactly (zTm i) "java/lang/String" ∈ flatC (Jvm.Cond.and given_1 narrow_1) := by decide +kernel
theorem ww_s2 : ∀ i, i < 14 → Cond.eq (.field (zTm i) "java/lang/String" "coder" "B") (.int 0) ∈ flatC (Jvm.Cond.and given_1 narrow_1) := by decide +kernel
theorem ww_s3 : ∀ i, i < 14 → Cond.arrayOf (.field (zTm i) "java/lang/String" "value" "[B") .byte ∈ flatC (Jvm.Cond.and given_1 narrow_1) := by decide +kernel
theorem ww_s4 : ∀ i, i < 14 → Cond.eq (.length (.field (zTm i) "java/lang/String" "value" "[B")) (.int (Int32.ofNat (zsLen.getD i 0))) ∈ flatC (Jvm.Cond.and given_1 narrow_1) := by decide +kernel
theorem ww_s5 : ∀ i, i < 14 → ∀ j, j < zsLen.getD i 0 → Cond.eq (.elem (.field (zTm i) "java/lang/String" "value" "[B") (.int (Int32.ofNat j))) (.int ((zsByt.getD i []).getD j 0)) ∈ flatC (Jvm.Cond.and given_1 narrow_1) := by decide +kernel
theorem ww_s7 : ∀ i, i < 14 → zsLen.getD i 0 < 2 ^ 31 := by decide +kernel
theorem ww_F {l : Launch} (h : l.flags = flags0) : l.stackTraces = false := by
  unfold Launch.stackTraces
  rw [h]
  decide +kernel
