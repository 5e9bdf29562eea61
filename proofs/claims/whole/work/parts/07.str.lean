/-! the String constants that the class looks at; and the JDK's own members that read them -/
def zsIdx : List Nat := [36, 94, 96, 45, 50, 62, 70, 74, 78, 155, 157, 159, 161, 137]
def zsTxt : List String := ["clock", "forward", "back", "holiday", "round", "meal", "longest", "rate", "premium", "day", "week", "seventh", "night", "counts"]
def zsLen : List Nat := [5, 7, 4, 7, 5, 4, 7, 4, 7, 3, 4, 7, 5, 6]
def zsByt : List (List Int32) := [[99, 108, 111, 99, 107], [102, 111, 114, 119, 97, 114, 100], [98, 97, 99, 107], [104, 111, 108, 105, 100, 97, 121], [114, 111, 117, 110, 100], [109, 101, 97, 108], [108, 111, 110, 103, 101, 115, 116], [114, 97, 116, 101], [112, 114, 101, 109, 105, 117, 109], [100, 97, 121], [119, 101, 101, 107], [115, 101, 118, 101, 110, 116, 104], [110, 105, 103, 104, 116], [99, 111, 117, 110, 116, 115]]
/-- a text's length, its signs -/
def zsl (i : Nat) : Int := ((zsLen.getD i 0 : Nat) : Int)
def zsc (i : Nat) (k : Int) : Int := ((zsByt.getD i []).getD k.toNat 0).toInt
abbrev lJ3_checkIndex_8e157 : List (Nat × Instr × Nat) := [(0, .iload_n 0, 1), (1, .ifCond .lt 8, 3), (4, .iload_n 0, 1), (5, .iload_n 1, 1), (6, .if_icmp .lt 10, 3), (9, .aload_n 2, 1), (10, .iload_n 0, 1), (11, .iload_n 1, 1), (12, .invokestatic 95, 3), (15, .athrow, 1), (16, .iload_n 0, 1), (17, .ireturn, 1)]
theorem tJ3_checkIndex_8e157 : zdec cJ3_checkIndex_8e157 lJ3_checkIndex_8e157 = true := by decide +kernel
noncomputable def vsJ3_checkIndex_8e157 : List Cond := .code yJ3_checkIndex_8e157 cJ3_checkIndex_8e157 3 (some .int) :: zbig
theorem pJ3_checkIndex_8e157 : yJ3_checkIndex_8e157.cls = RJ3 ∧ yJ3_checkIndex_8e157.cls ≠ "java/lang/invoke/MethodHandle" ∧ yJ3_checkIndex_8e157.cls ≠ "java/lang/invoke/VarHandle" ∧ (parseMethodDescriptor yJ3_checkIndex_8e157.desc).map (fun d => d.parameters.length) = some 3 := by decide +kernel
abbrev lJ0_checkIndex_df160 : List (Nat × Instr × Nat) := [(0, .iload_n 0, 1), (1, .iload_n 1, 1), (2, .getstatic 1053, 3), (5, .invokestatic 1059, 3), (8, .pop, 1), (9, .return_, 1)]
theorem tJ0_checkIndex_df160 : zdec cJ0_checkIndex_df160 lJ0_checkIndex_df160 = true := by decide +kernel
noncomputable def vsJ0_checkIndex_df160 : List Cond := .code yJ0_checkIndex_df160 cJ0_checkIndex_df160 2 none :: zbig
theorem pJ0_checkIndex_df160 : yJ0_checkIndex_df160.cls = RJ0 ∧ yJ0_checkIndex_df160.cls ≠ "java/lang/invoke/MethodHandle" ∧ yJ0_checkIndex_df160.cls ≠ "java/lang/invoke/VarHandle" ∧ (parseMethodDescriptor yJ0_checkIndex_df160.desc).map (fun d => d.parameters.length) = some 2 := by decide +kernel
abbrev lJ1_charAt_3b067 : List (Nat × Instr × Nat) := [(0, .iload_n 1, 1), (1, .aload_n 0, 1), (2, .arraylength, 1), (3, .invokestatic 9, 3), (6, .aload_n 0, 1), (7, .iload_n 1, 1), (8, .baload, 1), (9, .sipush 255, 3), (12, .iand, 1), (13, .i2c, 1), (14, .ireturn, 1)]
theorem tJ1_charAt_3b067 : zdec cJ1_charAt_3b067 lJ1_charAt_3b067 = true := by decide +kernel
noncomputable def vsJ1_charAt_3b067 : List Cond := .code yJ1_charAt_3b067 cJ1_charAt_3b067 2 (some .char) :: zbig
theorem pJ1_charAt_3b067 : yJ1_charAt_3b067.cls = RJ1 ∧ yJ1_charAt_3b067.cls ≠ "java/lang/invoke/MethodHandle" ∧ yJ1_charAt_3b067.cls ≠ "java/lang/invoke/VarHandle" ∧ (parseMethodDescriptor yJ1_charAt_3b067.desc).map (fun d => d.parameters.length) = some 2 := by decide +kernel
abbrev lJ0_isLatin1_aae02 : List (Nat × Instr × Nat) := [(0, .getstatic 38, 3), (3, .ifCond .eq 14, 3), (6, .aload_n 0, 1), (7, .getfield 15, 3), (10, .ifCond .ne 7, 3), (13, .iconst 1, 1), (14, .goto 4, 3), (17, .iconst 0, 1), (18, .ireturn, 1)]
theorem tJ0_isLatin1_aae02 : zdec cJ0_isLatin1_aae02 lJ0_isLatin1_aae02 = true := by decide +kernel
noncomputable def vsJ0_isLatin1_aae02 : List Cond := .code yJ0_isLatin1_aae02 cJ0_isLatin1_aae02 1 (some .boolean) :: zbig
theorem pJ0_isLatin1_aae02 : yJ0_isLatin1_aae02.cls = RJ0 ∧ yJ0_isLatin1_aae02.cls ≠ "java/lang/invoke/MethodHandle" ∧ yJ0_isLatin1_aae02.cls ≠ "java/lang/invoke/VarHandle" ∧ (parseMethodDescriptor yJ0_isLatin1_aae02.desc).map (fun d => d.parameters.length) = some 0 := by decide +kernel
abbrev lJ0_coder_7d493 : List (Nat × Instr × Nat) := [(0, .getstatic 38, 3), (3, .ifCond .eq 10, 3), (6, .aload_n 0, 1), (7, .getfield 15, 3), (10, .goto 4, 3), (13, .iconst 1, 1), (14, .ireturn, 1)]
theorem tJ0_coder_7d493 : zdec cJ0_coder_7d493 lJ0_coder_7d493 = true := by decide +kernel
noncomputable def vsJ0_coder_7d493 : List Cond := .code yJ0_coder_7d493 cJ0_coder_7d493 1 (some .byte) :: zbig
theorem pJ0_coder_7d493 : yJ0_coder_7d493.cls = RJ0 ∧ yJ0_coder_7d493.cls ≠ "java/lang/invoke/MethodHandle" ∧ yJ0_coder_7d493.cls ≠ "java/lang/invoke/VarHandle" ∧ (parseMethodDescriptor yJ0_coder_7d493.desc).map (fun d => d.parameters.length) = some 0 := by decide +kernel
abbrev lJ0_length_8abf5 : List (Nat × Instr × Nat) := [(0, .aload_n 0, 1), (1, .getfield 9, 3), (4, .arraylength, 1), (5, .aload_n 0, 1), (6, .invokevirtual 335, 3), (9, .ishr, 1), (10, .ireturn, 1)]
theorem tJ0_length_8abf5 : zdec cJ0_length_8abf5 lJ0_length_8abf5 = true := by decide +kernel
noncomputable def vsJ0_length_8abf5 : List Cond := .code yJ0_length_8abf5 cJ0_length_8abf5 1 (some .int) :: zbig
theorem pJ0_length_8abf5 : yJ0_length_8abf5.cls = RJ0 ∧ yJ0_length_8abf5.cls ≠ "java/lang/invoke/MethodHandle" ∧ yJ0_length_8abf5.cls ≠ "java/lang/invoke/VarHandle" ∧ (parseMethodDescriptor yJ0_length_8abf5.desc).map (fun d => d.parameters.length) = some 0 := by decide +kernel
abbrev lJ0_charAt_5068e : List (Nat × Instr × Nat) := [(0, .aload_n 0, 1), (1, .invokevirtual 492, 3), (4, .ifCond .eq 12, 3), (7, .aload_n 0, 1), (8, .getfield 9, 3), (11, .iload_n 1, 1), (12, .invokestatic 495, 3), (15, .ireturn, 1), (16, .aload_n 0, 1), (17, .getfield 9, 3), (20, .iload_n 1, 1), (21, .invokestatic 498, 3), (24, .ireturn, 1)]
theorem tJ0_charAt_5068e : zdec cJ0_charAt_5068e lJ0_charAt_5068e = true := by decide +kernel
noncomputable def vsJ0_charAt_5068e : List Cond := .code yJ0_charAt_5068e cJ0_charAt_5068e 2 (some .char) :: zbig
theorem pJ0_charAt_5068e : yJ0_charAt_5068e.cls = RJ0 ∧ yJ0_charAt_5068e.cls ≠ "java/lang/invoke/MethodHandle" ∧ yJ0_charAt_5068e.cls ≠ "java/lang/invoke/VarHandle" ∧ (parseMethodDescriptor yJ0_charAt_5068e.desc).map (fun d => d.parameters.length) = some 1 := by decide +kernel
def zStr (ad adV : Nat → Nat) (A : Nat → Prop) (U : State) (H : Heap) : Prop := vk_S 14 zsLen zsByt ad adV A U H ∧ (∀ i, i < 14 → vk_R RX6 (zsIdx.getD i 0) (zsTxt.getD i "") (ad i) U) ∧ va_Z "java/lang/String" "COMPACT_STRINGS" "Z" (.int 1) A U H ∧ va_Zq "jdk/internal/util/Preconditions" "SIOOBE_FORMATTER" "Ljava/util/function/BiFunction;" A U H
theorem zStr.kept {ad adV : Nat → Nat} {A : Nat → Prop} {U : State} {H H1 : Heap} (h : zStr ad adV A U H) (hq : ∀ a : Nat, a < H.size → ¬ A a → H1[a]? = H[a]?) : zStr ad adV A U H1 := ⟨h.1.kept hq, h.2.1, h.2.2.1.kept hq, h.2.2.2.kept hq⟩
theorem zStr.narrow {ad adV : Nat → Nat} {A B : Nat → Prop} {U : State} {H : Heap} (h : zStr ad adV A U H) (hAB : ∀ q, B q → A q) : zStr ad adV B U H := ⟨h.1.narrow hAB, h.2.1, h.2.2.1.narrow hAB, h.2.2.2.narrow hAB⟩
theorem zStr.warm {ad adV : Nat → Nat} {A : Nat → Prop} {s U : State} {H : Heap} (hW : s.WarmedH U.vm) (h : zStr ad adV A s H) : zStr ad adV A U H := ⟨h.1.moved hW.alike, fun i hi => vk_R.warm hW (h.2.1 i hi), h.2.2.1.moved hW.alike, h.2.2.2.moved hW.alike⟩
theorem zStr.call {ad adV : Nat → Nat} {A : Nat → Prop} {U : State} {g : JFrame} {mk : MethodId} {a : Array Value} (h : zStr ad adV A U U.heap) : zStr ad adV A (U.calling g mk a) (U.calling g mk a).heap := ⟨h.1.moved (u := U) (U := U.calling g mk a) (Vm.Alike.refl U.vm), fun i hi => vk_R.same (u := U) (U := U.calling g mk a) rfl (h.2.1 i hi), h.2.2.1.moved (u := U) (U := U.calling g mk a) (Vm.Alike.refl U.vm), h.2.2.2.moved (u := U) (U := U.calling g mk a) (Vm.Alike.refl U.vm)⟩
/-- a method that leaves the heap as it is -/
def zHC (l : Launch) (y : MethodName) (ws : List Cond) (rm : Room) (As : List Value) (Pre : State → Prop) (ret : Option Value) : Prop := Met l y ws rm (va_Pc As Pre) (fun _ st oc t => oc = .returned ret ∧ t.heap = st.heap) 0 0 (fun _ => False)
section ZHC
variable {p : Program} {l : Launch} {e : Env} {R : Room} {s : State} {m : MethodId} {args : Array Value} {below : List Frame} {meth : Method} {c : Code} {H : Heap} {locs : List Loc} {cells slots : Nat} {Q : State → Prop}
theorem zh_after {pc : Nat} {ls : Array Slot} {st0 rest : List Value} {a : Array Value} {ret : Option Value} (hr : va_Run p l e R s m args below meth c H locs cells slots 0 0 (F0 m pc ls st0) rest ((fun _ st oc t => oc = .returned ret ∧ t.heap = st.heap : Array Value → State → Outcome → State → Prop) a) (fun _ => False)) (kk : W p l e R s m args below meth c H locs cells slots Q (F0 m (pc + 3) ls (ret.toList ++ rest))) : W p l e R s m args below meth c H locs cells slots Q (F0 m pc ls st0) := by
  intro T hT X
  obtain ⟨v', st₀, t, T', L, h0, X', hL, e1, e2, ⟨hv, hh⟩, stp⟩ := hr T hT X
  cases hv
  have hLn : L = [] := by
    cases L with
    | nil => rfl
    | cons q L => exact (hL q List.mem_cons_self).elim
  subst hLn
  rw [List.append_nil] at X'
  obtain ⟨t2, a1, b1⟩ := kk T' (by rw [e1, hh, h0]) X'
  exact ⟨t2, stp t2 a1, b1⟩
end ZHC
set_option maxRecDepth 100000 in
set_option maxHeartbeats 4000000 in
theorem zqJ3 (l : Launch) (A : Nat → Prop) (i n : Int) (r : Value) (hr0 : r = .null ∨ ∃ q, r = .ref q) (h0 : 0 ≤ i) (h1 : i < n) (hn : zR n) : zHC l yJ3_checkIndex_8e157 vsJ3_checkIndex_8e157 { frames := 0, cells := 0, slots := 0, locals := 0 } [.int (zI i), .int (zI n), r] (fun _ => True) (some (.int (zI i))) := by
  have hi : zR i := by unfold zR at *; omega
  rcases hr0 with rfl | ⟨q, rfl⟩
  ·
    refine Met.ofW (cc := cJ3_checkIndex_8e157) (maxL := 3) (ret := some .int) (by decide +kernel) rfl ?_
    intro p e s m args below meth c s₁ B hml hv
    obtain ⟨rfl, hpre⟩ := hv
    have hx := B.exec
    have hb := B.bytes
    have hr := B.returns
    have hlocks := B.notSynchronized
    have hts := atoms_spec (ws := vsJ3_checkIndex_8e157) B.pre
    have hown : s.vm.findClass RJ3 = some m.cls := findClass_of_methodNamed B.named
    have hl := lv_entry ([.int (zI i), .int (zI n), Value.null]) (n := 3) (Nat.le_of_ble_eq_true rfl)
    rw [lg_entry_eq]
    generalize (lg_sl ([.int (zI i), .int (zI n), Value.null]) ++ List.replicate (3 - (lg_sl ([.int (zI i), .int (zI n), Value.null])).length) Slot.unset).toArray = ls at hl ⊢
    have hS : va_S A s.heap s.heap [] := va_S.rf
    have hl : lv_has ls 3 [(0, .int (zI i)), (1, .int (zI n)), (2, .null)] := hl
    refine lv_iload_n hx hb (zd tJ3_checkIndex_8e157 0 rfl) rfl (lv_at hl 0 rfl) ?_
    refine lv_if_lt (tgt := 9) hx hb (zd tJ3_checkIndex_8e157 1 rfl) (by decide) (fun c => ?_) (fun c => ?_)
    · rw [zI_0, zI_lt hi zR_0] at c
      omega
    refine lv_iload_n hx hb (zd tJ3_checkIndex_8e157 2 rfl) rfl (lv_at hl 0 rfl) ?_
    refine lv_iload_n hx hb (zd tJ3_checkIndex_8e157 3 rfl) rfl (lv_at hl 1 rfl) ?_
    refine lv_icmp_lt (tgt := 16) hx hb (zd tJ3_checkIndex_8e157 4 rfl) (by decide) (fun c => ?_) (fun c => absurd ((zI_lt hi hn).mpr h1) c)
    refine lv_iload_n hx hb (zd tJ3_checkIndex_8e157 10 rfl) rfl (lv_at hl 0 rfl) ?_
    exact W.iret hx hb hr (fun t ht _ => ⟨rfl, ht⟩) (fun _ h => by cases h) (zd tJ3_checkIndex_8e157 11 rfl)
  ·
    refine Met.ofW (cc := cJ3_checkIndex_8e157) (maxL := 3) (ret := some .int) (by decide +kernel) rfl ?_
    intro p e s m args below meth c s₁ B hml hv
    obtain ⟨rfl, hpre⟩ := hv
    have hx := B.exec
    have hb := B.bytes
    have hr := B.returns
    have hlocks := B.notSynchronized
    have hts := atoms_spec (ws := vsJ3_checkIndex_8e157) B.pre
    have hown : s.vm.findClass RJ3 = some m.cls := findClass_of_methodNamed B.named
    have hl := lv_entry ([.int (zI i), .int (zI n), Value.ref q]) (n := 3) (Nat.le_of_ble_eq_true rfl)
    rw [lg_entry_eq]
    generalize (lg_sl ([.int (zI i), .int (zI n), Value.ref q]) ++ List.replicate (3 - (lg_sl ([.int (zI i), .int (zI n), Value.ref q])).length) Slot.unset).toArray = ls at hl ⊢
    have hS : va_S A s.heap s.heap [] := va_S.rf
    have hl : lv_has ls 3 [(0, .int (zI i)), (1, .int (zI n)), (2, .ref q)] := hl
    refine lv_iload_n hx hb (zd tJ3_checkIndex_8e157 0 rfl) rfl (lv_at hl 0 rfl) ?_
    refine lv_if_lt (tgt := 9) hx hb (zd tJ3_checkIndex_8e157 1 rfl) (by decide) (fun c => ?_) (fun c => ?_)
    · rw [zI_0, zI_lt hi zR_0] at c
      omega
    refine lv_iload_n hx hb (zd tJ3_checkIndex_8e157 2 rfl) rfl (lv_at hl 0 rfl) ?_
    refine lv_iload_n hx hb (zd tJ3_checkIndex_8e157 3 rfl) rfl (lv_at hl 1 rfl) ?_
    refine lv_icmp_lt (tgt := 16) hx hb (zd tJ3_checkIndex_8e157 4 rfl) (by decide) (fun c => ?_) (fun c => absurd ((zI_lt hi hn).mpr h1) c)
    refine lv_iload_n hx hb (zd tJ3_checkIndex_8e157 10 rfl) rfl (lv_at hl 0 rfl) ?_
    exact W.iret hx hb hr (fun t ht _ => ⟨rfl, ht⟩) (fun _ h => by cases h) (zd tJ3_checkIndex_8e157 11 rfl)
set_option maxRecDepth 100000 in
set_option maxHeartbeats 4000000 in
theorem zqJ0c (l : Launch) (A : Nat → Prop) (i n : Int) (h0 : 0 ≤ i) (h1 : i < n) (hn : zR n) : zHC l yJ0_checkIndex_df160 vsJ0_checkIndex_df160 { frames := 1, cells := 0, slots := 0, locals := 22 } [.int (zI i), .int (zI n)] (fun U => va_Zq "jdk/internal/util/Preconditions" "SIOOBE_FORMATTER" "Ljava/util/function/BiFunction;" A U U.heap) none := by
  refine Met.ofW (cc := cJ0_checkIndex_df160) (maxL := 2) (ret := none) (by decide +kernel) rfl ?_
  intro p e s m args below meth c s₁ B hml hv
  obtain ⟨rfl, hpre⟩ := hv
  have hx := B.exec
  have hb := B.bytes
  have hr := B.returns
  have hlocks := B.notSynchronized
  have hts := atoms_spec (ws := vsJ0_checkIndex_df160) B.pre
  have hown : s.vm.findClass RJ0 = some m.cls := findClass_of_methodNamed B.named
  have hl := lv_entry ([.int (zI i), .int (zI n)]) (n := 2) (Nat.le_of_ble_eq_true rfl)
  rw [lg_entry_eq]
  generalize (lg_sl ([.int (zI i), .int (zI n)]) ++ List.replicate (2 - (lg_sl ([.int (zI i), .int (zI n)])).length) Slot.unset).toArray = ls at hl ⊢
  have hS : va_S A s.heap s.heap [] := va_S.rf
  have hl : lv_has ls 2 [(0, .int (zI i)), (1, .int (zI n))] := hl
  refine lv_iload_n hx hb (zd tJ0_checkIndex_df160 0 rfl) rfl (lv_at hl 0 rfl) ?_
  refine lv_iload_n hx hb (zd tJ0_checkIndex_df160 1 rfl) rfl (lv_at hl 1 rfl) ?_
  obtain ⟨r, hZ⟩ : ∃ r : Option Nat, va_Z "jdk/internal/util/Preconditions" "SIOOBE_FORMATTER" "Ljava/util/function/BiFunction;" (va_rf r) A s s.heap := by
    rcases hpre with h | ⟨t, h⟩
    · exact ⟨none, h⟩
    · exact ⟨some t, h⟩
  refine va_gets hx hb hZ hS hown (hts (.fieldLink RJ0 1053 "jdk/internal/util/Preconditions" "SIOOBE_FORMATTER" "Ljava/util/function/BiFunction;") (zm zwd_502)) (fun _ h => h) (zd tJ0_checkIndex_df160 2 rfl) ?_
  refine zh_after (ret := some (.int (zI i))) (a := #[.int (zI i), .int (zI n), va_rf r]) (rest := []) (va_runS (As := [.int (zI i), .int (zI n), va_rf r]) ⟨hx, hb, hml, hown, hts⟩ (zqJ3 l A i n (va_rf r) (by cases r; exact Or.inl rfl; exact Or.inr ⟨_, rfl⟩) h0 h1 hn) (va_cwS 3 hts (zgS zwd_504 zwd_505 zwd_17 zwd_506) rfl rfl rfl pJ3_checkIndex_8e157.2 ⟨Nat.le_of_ble_eq_true rfl, Nat.le_of_ble_eq_true rfl⟩) ⟨fun _ _ _ _ h => h, fun _ _ _ => ⟨rfl, trivial⟩⟩ rfl rfl hl.1 rfl (lv_room (Nat.le_of_ble_eq_true rfl)) (zd tJ0_checkIndex_df160 3 rfl) ⟨Nat.zero_le _, Nat.zero_le _⟩) ?_
  refine lv_pop hx hb (zd tJ0_checkIndex_df160 4 rfl) rfl ?_
  exact W.vret hx hb hr (fun t ht _ => ⟨rfl, ht⟩) (fun _ h => by cases h) (zd tJ0_checkIndex_df160 5 rfl)
theorem zchar {x : Int} (h0 : 0 ≤ x) (h1 : x < 128) : (zI x &&& 255) = zI x ∧ narrow .char (.int (zI x)) = .int (zI x) := by
  have h : ∀ k : Fin 128, (zI ((k : Nat) : Int) &&& 255) = zI ((k : Nat) : Int) ∧ narrow .char (.int (zI ((k : Nat) : Int))) = .int (zI ((k : Nat) : Int)) := by decide +kernel
  have h2 := h ⟨x.toNat, by omega⟩
  have e : ((x.toNat : Nat) : Int) = x := by omega
  rw [show (((⟨x.toNat, by omega⟩ : Fin 128) : Nat) : Int) = x from e] at h2
  exact h2
theorem zs_all : ∀ i, i < 14 → zsLen.getD i 0 = (zsByt.getD i []).length ∧ (zsByt.getD i []).all (fun b => decide (0 ≤ b.toInt ∧ b.toInt < 128)) = true := by decide +kernel
theorem zs_ch {i : Nat} (hi : i < 14) {k : Int} (h0 : 0 ≤ k) (h1 : k < zsl i) : 0 ≤ zsc i k ∧ zsc i k < 128 := by
  obtain ⟨h2, h3⟩ := zs_all i hi
  unfold zsl at h1
  unfold zsc
  have hk : k.toNat < (zsByt.getD i []).length := by omega
  have h4 := List.all_eq_true.mp h3 ((zsByt.getD i []).getD k.toNat 0) ((fun (L : List Int32) (j : Nat) (hj : j < L.length) => (by rw [List.getD_eq_getElem?_getD, List.getElem?_eq_getElem hj]; exact List.getElem_mem hj : L.getD j 0 ∈ L)) _ _ hk)
  exact of_decide_eq_true h4
theorem zs_len (i : Nat) : zR (zsl i) ∧ 0 ≤ zsl i := by
  have h : zsLen.getD i 0 ≤ 100 := by
    by_cases hi : i < 14
    · exact (by decide +kernel : ∀ i, i < 14 → zsLen.getD i 0 ≤ 100) i hi
    · rw [List.getD_eq_getElem?_getD, List.getElem?_eq_none (by show zsLen.length ≤ i; exact Nat.le_of_not_lt hi)]
      decide
  unfold zsl zR
  omega
set_option maxRecDepth 100000 in
set_option maxHeartbeats 4000000 in
theorem zqJ1 (l : Launch) (A : Nat → Prop) (q N : Nat) (f : Nat → Value) (i x : Int) (h0 : 0 ≤ i) (h1 : i < (N : Int)) (hN : zR (N : Int)) (hf : f i.toNat = .int (zI x)) (hx0 : 0 ≤ x) (hx1 : x < 128) : zHC l yJ1_charAt_3b067 vsJ1_charAt_3b067 { frames := 2, cells := 0, slots := 0, locals := 43 } [.ref q, .int (zI i)] (fun U => va_T .byte q N f A U U.heap ∧ va_Zq "jdk/internal/util/Preconditions" "SIOOBE_FORMATTER" "Ljava/util/function/BiFunction;" A U U.heap) (some (.int (zI x))) := by
  obtain ⟨hc1, hc2⟩ := zchar hx0 hx1
  refine Met.ofW (cc := cJ1_charAt_3b067) (maxL := 2) (ret := some .char) (by decide +kernel) rfl ?_
  intro p e s m args below meth c s₁ B hml hv
  obtain ⟨rfl, hpre⟩ := hv
  have hx := B.exec
  have hb := B.bytes
  have hr := B.returns
  have hlocks := B.notSynchronized
  have hts := atoms_spec (ws := vsJ1_charAt_3b067) B.pre
  have hown : s.vm.findClass RJ1 = some m.cls := findClass_of_methodNamed B.named
  have hl := lv_entry ([.ref q, .int (zI i)]) (n := 2) (Nat.le_of_ble_eq_true rfl)
  rw [lg_entry_eq]
  generalize (lg_sl ([.ref q, .int (zI i)]) ++ List.replicate (2 - (lg_sl ([.ref q, .int (zI i)])).length) Slot.unset).toArray = ls at hl ⊢
  have hS : va_S A s.heap s.heap [] := va_S.rf
  have hl : lv_has ls 2 [(0, .ref q), (1, .int (zI i))] := hl
  refine lv_iload_n hx hb (zd tJ1_charAt_3b067 0 rfl) rfl (lv_at hl 1 rfl) ?_
  refine lv_aload_n hx hb (zd tJ1_charAt_3b067 1 rfl) rfl (lv_at hl 0 rfl) ?_
  refine va_tlen hx hb hpre.1 hS (v := zI (N : Int)) rfl (zd tJ1_charAt_3b067 2 rfl) ?_
  refine zh_after (ret := none) (a := #[.int (zI i), .int (zI (N : Int))]) (rest := []) (va_runS (As := [.int (zI i), .int (zI (N : Int))]) ⟨hx, hb, hml, hown, hts⟩ (zqJ0c l A i (N : Int) h0 h1 hN) (va_cwS 2 hts (zgS zwd_499 zwd_500 zwd_15 zwd_501) rfl rfl rfl pJ0_checkIndex_df160.2 ⟨Nat.le_of_ble_eq_true rfl, Nat.le_of_ble_eq_true rfl⟩) ⟨fun a U g mk h => ⟨h.1, h.2.moved (u := U) (U := U.calling g mk a) (Vm.Alike.refl U.vm)⟩, fun U hU hW => ⟨rfl, by dsimp only; rw [hU]; exact hpre.2.moved hW.alike⟩⟩ rfl rfl hl.1 rfl (lv_room (Nat.le_of_ble_eq_true rfl)) (zd tJ1_charAt_3b067 3 rfl) ⟨Nat.zero_le _, Nat.zero_le _⟩) ?_
  refine lv_aload_n hx hb (zd tJ1_charAt_3b067 4 rfl) rfl (lv_at hl 0 rfl) ?_
  refine lv_iload_n hx hb (zd tJ1_charAt_3b067 5 rfl) rfl (lv_at hl 1 rfl) ?_
  obtain ⟨hin, ec, -⟩ := zin h0 h1 (by unfold zR at hN; omega)
  refine va_tb hx hb hpre.1 hS hin (v := .int (zI x)) (by rw [ec]; exact hf) (zd tJ1_charAt_3b067 6 rfl) ?_
  refine lv_sipush (v := 255) hx hb (zd tJ1_charAt_3b067 7 rfl) (by decide) ?_
  refine lv_iand hx hb (zd tJ1_charAt_3b067 8 rfl) ?_
  rw [hc1]
  refine lv_i2c (v := zI x) hx hb (zd tJ1_charAt_3b067 9 rfl) (by have h9 := hc2; simp only [narrow] at h9; have h8 := Value.int.inj h9; first | exact h8 | (rw [← h8]; rfl)) ?_
  exact W.zret (ty := .char) hx hb hr hc2 (fun t ht _ => ⟨rfl, ht⟩) (fun _ h => by cases h) (zd tJ1_charAt_3b067 10 rfl)
set_option maxRecDepth 100000 in
set_option maxHeartbeats 4000000 in
theorem zqJ0l (l : Launch) (A : Nat → Prop) (q : Nat) : zHC l yJ0_isLatin1_aae02 vsJ0_isLatin1_aae02 { frames := 0, cells := 0, slots := 0, locals := 0 } [.ref q] (fun U => va_OF "java/lang/String" "coder" "B" (.int 0) q A U U.heap ∧ va_Z "java/lang/String" "COMPACT_STRINGS" "Z" (.int 1) A U U.heap) (some (.int 1)) := by
  refine Met.ofW (cc := cJ0_isLatin1_aae02) (maxL := 1) (ret := some .boolean) (by decide +kernel) rfl ?_
  intro p e s m args below meth c s₁ B hml hv
  obtain ⟨rfl, hpre⟩ := hv
  have hx := B.exec
  have hb := B.bytes
  have hr := B.returns
  have hlocks := B.notSynchronized
  have hts := atoms_spec (ws := vsJ0_isLatin1_aae02) B.pre
  have hown : s.vm.findClass RJ0 = some m.cls := findClass_of_methodNamed B.named
  have hl := lv_entry ([.ref q]) (n := 1) (Nat.le_of_ble_eq_true rfl)
  rw [lg_entry_eq]
  generalize (lg_sl ([.ref q]) ++ List.replicate (1 - (lg_sl ([.ref q])).length) Slot.unset).toArray = ls at hl ⊢
  have hS : va_S A s.heap s.heap [] := va_S.rf
  have hl : lv_has ls 1 [(0, .ref q)] := hl
  refine va_gets hx hb hpre.2 hS hown (hts (.fieldLink RJ0 38 "java/lang/String" "COMPACT_STRINGS" "Z") (zm zwd_486)) (fun _ h => h) (zd tJ0_isLatin1_aae02 0 rfl) ?_
  refine lv_if_eq (tgt := 17) hx hb (zd tJ0_isLatin1_aae02 1 rfl) (by decide) (fun c => absurd c (by decide)) (fun c => ?_)
  refine lv_aload_n hx hb (zd tJ0_isLatin1_aae02 2 rfl) rfl (lv_at hl 0 rfl) ?_
  refine vk_getf hx hb hpre.1 hS hown (hts (.fieldLink RJ0 15 "java/lang/String" "coder" "B") (zm zwd_1422)) (fun _ h => h) (zd tJ0_isLatin1_aae02 3 rfl) ?_
  refine lv_if_ne (tgt := 17) hx hb (zd tJ0_isLatin1_aae02 4 rfl) (by decide) (fun c => absurd rfl c) (fun c => ?_)
  refine lv_iconst (v := 1) hx hb (zd tJ0_isLatin1_aae02 5 rfl) (by decide) ?_
  refine lv_goto (tgt := 18) hx hb (zd tJ0_isLatin1_aae02 6 rfl) (by decide) ?_
  exact W.zret (ty := .boolean) hx hb hr (by decide) (fun t ht _ => ⟨rfl, ht⟩) (fun _ h => by cases h) (zd tJ0_isLatin1_aae02 8 rfl)
set_option maxRecDepth 100000 in
set_option maxHeartbeats 4000000 in
theorem zqJ0k (l : Launch) (A : Nat → Prop) (q : Nat) : zHC l yJ0_coder_7d493 vsJ0_coder_7d493 { frames := 0, cells := 0, slots := 0, locals := 0 } [.ref q] (fun U => va_OF "java/lang/String" "coder" "B" (.int 0) q A U U.heap ∧ va_Z "java/lang/String" "COMPACT_STRINGS" "Z" (.int 1) A U U.heap) (some (.int 0)) := by
  refine Met.ofW (cc := cJ0_coder_7d493) (maxL := 1) (ret := some .byte) (by decide +kernel) rfl ?_
  intro p e s m args below meth c s₁ B hml hv
  obtain ⟨rfl, hpre⟩ := hv
  have hx := B.exec
  have hb := B.bytes
  have hr := B.returns
  have hlocks := B.notSynchronized
  have hts := atoms_spec (ws := vsJ0_coder_7d493) B.pre
  have hown : s.vm.findClass RJ0 = some m.cls := findClass_of_methodNamed B.named
  have hl := lv_entry ([.ref q]) (n := 1) (Nat.le_of_ble_eq_true rfl)
  rw [lg_entry_eq]
  generalize (lg_sl ([.ref q]) ++ List.replicate (1 - (lg_sl ([.ref q])).length) Slot.unset).toArray = ls at hl ⊢
  have hS : va_S A s.heap s.heap [] := va_S.rf
  have hl : lv_has ls 1 [(0, .ref q)] := hl
  refine va_gets hx hb hpre.2 hS hown (hts (.fieldLink RJ0 38 "java/lang/String" "COMPACT_STRINGS" "Z") (zm zwd_486)) (fun _ h => h) (zd tJ0_coder_7d493 0 rfl) ?_
  refine lv_if_eq (tgt := 13) hx hb (zd tJ0_coder_7d493 1 rfl) (by decide) (fun c => absurd c (by decide)) (fun c => ?_)
  refine lv_aload_n hx hb (zd tJ0_coder_7d493 2 rfl) rfl (lv_at hl 0 rfl) ?_
  refine vk_getf hx hb hpre.1 hS hown (hts (.fieldLink RJ0 15 "java/lang/String" "coder" "B") (zm zwd_1422)) (fun _ h => h) (zd tJ0_coder_7d493 3 rfl) ?_
  refine lv_goto (tgt := 14) hx hb (zd tJ0_coder_7d493 4 rfl) (by decide) ?_
  exact W.zret (ty := .byte) hx hb hr (by decide) (fun t ht _ => ⟨rfl, ht⟩) (fun _ h => by cases h) (zd tJ0_coder_7d493 6 rfl)
set_option maxRecDepth 100000 in
set_option maxHeartbeats 4000000 in
theorem zqJ0n (l : Launch) (A : Nat → Prop) (ad adV : Nat → Nat) (i : Nat) (hi : i < 14) : zHC l yJ0_length_8abf5 vsJ0_length_8abf5 { frames := 1, cells := 0, slots := 0, locals := 20 } [.ref (ad i)] (fun U => zStr ad adV A U U.heap) (some (.int (zI (zsl i)))) := by
  refine Met.ofW (cc := cJ0_length_8abf5) (maxL := 1) (ret := some .int) (by decide +kernel) rfl ?_
  intro p e s m args below meth c s₁ B hml hv
  obtain ⟨rfl, hpre⟩ := hv
  have hx := B.exec
  have hb := B.bytes
  have hr := B.returns
  have hlocks := B.notSynchronized
  have hts := atoms_spec (ws := vsJ0_length_8abf5) B.pre
  have hown : s.vm.findClass RJ0 = some m.cls := findClass_of_methodNamed B.named
  have hl := lv_entry ([.ref (ad i)]) (n := 1) (Nat.le_of_ble_eq_true rfl)
  rw [lg_entry_eq]
  generalize (lg_sl ([.ref (ad i)]) ++ List.replicate (1 - (lg_sl ([.ref (ad i)])).length) Slot.unset).toArray = ls at hl ⊢
  have hS : va_S A s.heap s.heap [] := va_S.rf
  have hl : lv_has ls 1 [(0, .ref (ad i))] := hl
  obtain ⟨g1, g2, g3, g4⟩ := hpre.1.1 i hi
  refine lv_aload_n hx hb (zd tJ0_length_8abf5 0 rfl) rfl (lv_at hl 0 rfl) ?_
  refine vk_getf hx hb g3 hS hown (hts (.fieldLink RJ0 9 "java/lang/String" "value" "[B") (zm zwd_1421)) (fun _ h => h) (zd tJ0_length_8abf5 1 rfl) ?_
  refine va_tlen hx hb g4 hS (v := zI (zsl i)) rfl (zd tJ0_length_8abf5 2 rfl) ?_
  refine lv_aload_n hx hb (zd tJ0_length_8abf5 3 rfl) rfl (lv_at hl 0 rfl) ?_
  refine zh_after (ret := some (.int 0)) (a := #[.ref (ad i)]) (rest := [.int (zI (zsl i))]) (va_runV (As := []) (b := ad i) ⟨hx, hb, hml, hown, hts⟩ (zqJ0k l A (ad i)) (cwV 0 hts (zgV zwd_482 zwd_483 zwd_484 zwd_15 zwd_485) rfl rfl rfl pJ0_coder_7d493 ⟨Nat.le_of_ble_eq_true rfl, Nat.le_of_ble_eq_true rfl⟩) ⟨fun a U g mk h => ⟨h.1, h.2.1.moved (u := U) (U := U.calling g mk a) (Vm.Alike.refl U.vm), h.2.2.moved (u := U) (U := U.calling g mk a) (Vm.Alike.refl U.vm)⟩, vk_recv hpre.1 hi hS, fun U hU hW => ⟨rfl, by dsimp only; rw [hU]; exact ⟨g2.moved hW.alike, hpre.2.2.1.moved hW.alike⟩⟩⟩ rfl rfl hl.1 rfl (lv_room (Nat.le_of_ble_eq_true rfl)) (zd tJ0_length_8abf5 4 rfl) ⟨Nat.zero_le _, Nat.zero_le _⟩) ?_
  refine lv_ishr hx hb (zd tJ0_length_8abf5 5 rfl) ?_
  have e : zI (zsl i) >>> ((0 : Int32) &&& 31) = zI (zsl i) := (by decide +kernel : ∀ i, i < 14 → zI (zsl i) >>> ((0 : Int32) &&& 31) = zI (zsl i)) i hi
  rw [e]
  exact W.iret hx hb hr (fun t ht _ => ⟨rfl, ht⟩) (fun _ h => by cases h) (zd tJ0_length_8abf5 6 rfl)
set_option maxRecDepth 100000 in
set_option maxHeartbeats 4000000 in
theorem zqJ0h (l : Launch) (A : Nat → Prop) (ad adV : Nat → Nat) (i : Nat) (hi : i < 14) (k : Int) (h0 : 0 ≤ k) (h1 : k < zsl i) : zHC l yJ0_charAt_5068e vsJ0_charAt_5068e { frames := 3, cells := 0, slots := 0, locals := 64 } [.ref (ad i), .int (zI k)] (fun U => zStr ad adV A U U.heap) (some (.int (zI (zsc i k)))) := by
  obtain ⟨hc0, hc1⟩ := zs_ch hi h0 h1
  obtain ⟨hc2, hc3⟩ := zchar hc0 hc1
  refine Met.ofW (cc := cJ0_charAt_5068e) (maxL := 2) (ret := some .char) (by decide +kernel) rfl ?_
  intro p e s m args below meth c s₁ B hml hv
  obtain ⟨rfl, hpre⟩ := hv
  have hx := B.exec
  have hb := B.bytes
  have hr := B.returns
  have hlocks := B.notSynchronized
  have hts := atoms_spec (ws := vsJ0_charAt_5068e) B.pre
  have hown : s.vm.findClass RJ0 = some m.cls := findClass_of_methodNamed B.named
  have hl := lv_entry ([.ref (ad i), .int (zI k)]) (n := 2) (Nat.le_of_ble_eq_true rfl)
  rw [lg_entry_eq]
  generalize (lg_sl ([.ref (ad i), .int (zI k)]) ++ List.replicate (2 - (lg_sl ([.ref (ad i), .int (zI k)])).length) Slot.unset).toArray = ls at hl ⊢
  have hS : va_S A s.heap s.heap [] := va_S.rf
  have hl : lv_has ls 2 [(0, .ref (ad i)), (1, .int (zI k))] := hl
  obtain ⟨g1, g2, g3, g4⟩ := hpre.1.1 i hi
  refine lv_aload_n hx hb (zd tJ0_charAt_5068e 0 rfl) rfl (lv_at hl 0 rfl) ?_
  refine zh_after (ret := some (.int 1)) (a := #[.ref (ad i)]) (rest := []) (va_runV (As := []) (b := ad i) ⟨hx, hb, hml, hown, hts⟩ (zqJ0l l A (ad i)) (cwV 0 hts (zgV zwd_492 zwd_493 zwd_494 zwd_15 zwd_495) rfl rfl rfl pJ0_isLatin1_aae02 ⟨Nat.le_of_ble_eq_true rfl, Nat.le_of_ble_eq_true rfl⟩) ⟨fun a U g mk h => ⟨h.1, h.2.1.moved (u := U) (U := U.calling g mk a) (Vm.Alike.refl U.vm), h.2.2.moved (u := U) (U := U.calling g mk a) (Vm.Alike.refl U.vm)⟩, vk_recv hpre.1 hi hS, fun U hU hW => ⟨rfl, by dsimp only; rw [hU]; exact ⟨g2.moved hW.alike, hpre.2.2.1.moved hW.alike⟩⟩⟩ rfl rfl hl.1 rfl (lv_room (Nat.le_of_ble_eq_true rfl)) (zd tJ0_charAt_5068e 1 rfl) ⟨Nat.zero_le _, Nat.zero_le _⟩) ?_
  refine lv_if_eq (tgt := 16) hx hb (zd tJ0_charAt_5068e 2 rfl) (by decide) (fun c => absurd c (by decide)) (fun c => ?_)
  refine lv_aload_n hx hb (zd tJ0_charAt_5068e 3 rfl) rfl (lv_at hl 0 rfl) ?_
  refine vk_getf hx hb g3 hS hown (hts (.fieldLink RJ0 9 "java/lang/String" "value" "[B") (zm zwd_1421)) (fun _ h => h) (zd tJ0_charAt_5068e 4 rfl) ?_
  refine lv_iload_n hx hb (zd tJ0_charAt_5068e 5 rfl) rfl (lv_at hl 1 rfl) ?_
  refine zh_after (ret := some (.int (zI (zsc i k)))) (a := #[.ref (adV i), .int (zI k)]) (rest := []) (va_runS (As := [.ref (adV i), .int (zI k)]) ⟨hx, hb, hml, hown, hts⟩ (zqJ1 l A (adV i) (zsLen.getD i 0) (fun j => .int ((zsByt.getD i []).getD j 0)) k (zsc i k) h0 h1 (zs_len i).1 (by unfold zsc; rw [zI_toInt]) hc0 hc1) (va_cwS 2 hts (zgS zwd_496 zwd_497 zwd_16 zwd_498) rfl rfl rfl pJ1_charAt_3b067.2 ⟨Nat.le_of_ble_eq_true rfl, Nat.le_of_ble_eq_true rfl⟩) ⟨fun a U g mk h => ⟨h.1, h.2.1.moved (u := U) (U := U.calling g mk a) (Vm.Alike.refl U.vm), h.2.2.moved (u := U) (U := U.calling g mk a) (Vm.Alike.refl U.vm)⟩, fun U hU hW => ⟨rfl, by dsimp only; rw [hU]; exact ⟨g4.moved hW.alike, hpre.2.2.2.moved hW.alike⟩⟩⟩ rfl rfl hl.1 rfl (lv_room (Nat.le_of_ble_eq_true rfl)) (zd tJ0_charAt_5068e 6 rfl) ⟨Nat.zero_le _, Nat.zero_le _⟩) ?_
  exact W.zret (ty := .char) hx hb hr hc3 (fun t ht _ => ⟨rfl, ht⟩) (fun _ h => by cases h) (zd tJ0_charAt_5068e 7 rfl)
