/-! what the printed walks take: fields, links, kinds, by their places. Laid by wip/whole/genfields.py. -/
def zn {α : Type} (x : Int) (k : Int → Option α) : Option α := if -2147483648 ≤ x ∧ x ≤ 2147483647 then k x else none
theorem zn_some {α : Type} {x : Int} {k : Int → Option α} {r : α} (h : zn x k = some r) : ∃ t, t = x ∧ zR t ∧ k t = some r := by
  unfold zn at h
  split at h
  · exact ⟨x, rfl, ‹_›, h⟩
  · cases h
theorem zn_pos {α : Type} {x : Int} {k : Int → Option α} (h : -2147483648 ≤ x ∧ x ≤ 2147483647) : zn x k = k x := if_pos h
/-- an inner loop that may end the method, inside a loop -/
def zlq {β γ : Type} (o : Option ((zHp × Int) ⊕ (zHp × β))) (k : zHp → β → Option ((zHp × Int) ⊕ γ)) : Option ((zHp × Int) ⊕ γ) := match o with
  | some (.inl q) => some (.inl q)
  | some (.inr (v, r)) => k v r
  | none => none
theorem zlq_some {β γ : Type} {o : Option ((zHp × Int) ⊕ (zHp × β))} {k : zHp → β → Option ((zHp × Int) ⊕ γ)} {x : (zHp × Int) ⊕ γ} (h : zlq o k = some x) : (∃ y, o = some (.inl y) ∧ Sum.inl y = x) ∨ ∃ v r, o = some (.inr (v, r)) ∧ k v r = some x := by
  rcases o with _ | ⟨q | ⟨v, r⟩⟩
  · cases h
  · exact Or.inl ⟨q, rfl, Option.some.inj h⟩
  · exact Or.inr ⟨v, r, rfl, h⟩
theorem zpi {α β : Type} {a c : α} {b d : β} (h : some (a, b) = some (c, d)) : a = c ∧ b = d := by
  cases h
  exact ⟨rfl, rfl⟩
theorem zpp {α β : Type} {a c : α} {b d : β} (h : (a, b) = (c, d)) : a = c ∧ b = d := by
  cases h
  exact ⟨rfl, rfl⟩
theorem zsub_0 {u : List (Option zAV)} : zsub [] u := by unfold zsub; trivial
theorem zsub_s {t u : List (Option zAV)} {x : zAV} (h : zsub t u) : zsub (some x :: t) (some x :: u) := by unfold zsub; exact ⟨rfl, h⟩
theorem zsub_n {t u : List (Option zAV)} {y : Option zAV} (h : zsub t u) : zsub (none :: t) (y :: u) := by unfold zsub; exact h
theorem zdyn {x : Int} {a : Nat} (h : 0 ≤ x) (e : a = x.toNat) : x = (a : Int) := by omega
theorem zbool_n {x : Int} (h : x = 0 ∨ x = 1) : narrow .boolean (.int (zI x)) = .int (zI x) := by rcases h with rfl | rfl <;> decide
theorem zbool_f {x : Int} (h : x = 0 ∨ x = 1) : fits .boolean (.int (zI x)) = true := by rcases h with rfl | rfl <;> decide
section ZF
variable {E : zE} {nn : Nat} {cc : ByteArray} {own : String} {Ts : List Cond} {k n : Nat} {v : zHp} {pc : Nat} {lo : List (Option zAV)} {st stk : List zAV}
theorem z_nk (dep : Nat) {x y : Int} (h : zI x = zI y) (hk : stk[dep]? = some (zi x)) (kk : zX E k n nn v pc lo (stk.set dep (zi y))) : zX E k n nn v pc lo stk := by
  intro H locs ls hP hS hZ hl
  have := kk H locs ls hP hS hZ hl
  have e : (stk.set dep (zi y)).map (zxv (zEb E)) = stk.map (zxv (zEb E)) := by
    rw [List.map_set]
    refine List.ext_getElem? fun i => ?_
    by_cases hi : i = dep
    · subst hi
      rw [List.getElem?_set_self (by rw [List.length_map]; exact (List.getElem?_eq_some_iff.mp hk).1), List.getElem?_map, hk]
      simp [zxv, h]
    · rw [List.getElem?_set_ne (Ne.symm hi)]
  rwa [e] at this
theorem z_r0 {a b : Nat} (h : a = b) (kk : zX E k n nn v pc lo (zr b :: st)) : zX E k n nn v pc lo (zr a :: st) := by subst h; exact kk
theorem z_iincE (C : zC E nn cc own Ts) {i : Nat} {m x t : Int} (d : decode cc pc = .ok (.iinc i m, 3)) (hN : i < zEN E) (h : lo[i]? = some (some (zi x))) (e : t = x + m) (kk : zX E k n nn v (pc + 3) (lo.set i (some (zi t))) st) : zX E k n nn v pc lo st := by
  subst e
  exact z_iinc C d hN h kk
theorem z_ldcw (C : zC E nn cc own Ts) {i : Int} {idx : Nat} {x : Int32} (hx : x = zI i) (hw : Cond.constant own idx x ∈ Ts) (d : decode cc pc = .ok (.ldc_w idx, 3)) (kk : zX E k n nn v (pc + 3) lo (zi i :: st)) : zX E k n nn v pc lo st := by
  subst hx
  exact fun H locs ls hP hS hZ hl => lv_ldcw C.1 C.2.1 C.2.2.1 (C.2.2.2.1 _ hw) d (kk H locs ls hP hS hZ hl)
theorem z_tblIn (C : zC E nn cc own Ts) {dflt lw hi : Int} {offs : Array Int} {len : Nat} {x c off : Int} {tgt : Nat} (hx : zR x) (e : x = c) (d : decode cc pc = .ok (.tableswitch dflt lw hi offs, len)) (h1 : ¬ c < lw) (h2 : ¬ hi < c) (ho : offs[(c - lw).toNat]? = some off) (ht : (pc : Int) + off = (tgt : Int)) (kk : zX E k n nn v tgt lo st) : zX E k n nn v pc lo (zi x :: st) := by
  subst e
  intro H locs ls hP hS hZ hl
  have hxv : (zI x).toInt = x := zw_id hx
  exact lv_tableIn C.1 C.2.1 d (by rw [hxv]; exact h1) (by rw [hxv]; exact h2) (by rw [hxv]; exact ho) ht (kk H locs ls hP hS hZ hl)
theorem z_tblOut (C : zC E nn cc own Ts) {dflt lw hi : Int} {offs : Array Int} {len : Nat} {x : Int} {tgt : Nat} (hx : zR x) (e : x < lw ∨ hi < x) (d : decode cc pc = .ok (.tableswitch dflt lw hi offs, len)) (ht : (pc : Int) + dflt = (tgt : Int)) (kk : zX E k n nn v tgt lo st) : zX E k n nn v pc lo (zi x :: st) := by
  intro H locs ls hP hS hZ hl
  have hxv : (zI x).toInt = x := zw_id hx
  exact lv_tableOut C.1 C.2.1 d (by rw [hxv]; exact e) ht (kk H locs ls hP hS hZ hl)
theorem zc_V (C : zC E nn cc own Ts) {o : Nat} {zz : Prop} {R' : Room} (ho : zEo E = o) (hz : zEz E = zz) (hRm : zER E = R') {y : MethodName} {wsy ws' : List Cond} {rm : Room} {a ci N idx nA maxL : Nat} {Cn : String} {T : u_T} {bytes : ByteArray} {ret' : Option FieldType} {As : List zAV} {Pf : Prop} {ret : Option zAV} {v1 : zHp}
    (M : zCT (zEl E) y wsy rm (zED E) (zEi E) (zEb E) o zz nn (zr a :: As) v nn Pf ret v1 0 0) (G : zG E nn a ci N) (hci : ci < 20) (hc : vwCl[ci]? = some (Cn, T, N)) (hG : GoodIn Ts (wsV own idx Cn y wsy)) (hw : wsy = .code y bytes maxL ret' :: ws')
    (hd : y.cls = Cn ∧ y.cls ≠ "java/lang/invoke/MethodHandle" ∧ y.cls ≠ "java/lang/invoke/VarHandle" ∧ (parseMethodDescriptor y.desc).map (fun d => d.parameters.length) = some nA) (hn : As.length = nA) (hR0 : rm.cells = 0 ∧ rm.slots = 0) (hR : rm.frames + 1 ≤ R'.frames ∧ 8 + (maxL + 11) + rm.locals ≤ R'.locals) (st : List zAV) (hst : stk = As.reverse ++ zr a :: st) (hl8 : st.length ≤ 8) (d : decode cc pc = .ok (.invokevirtual idx, 3))
    (stk' : List zAV) (hs' : ret.toList ++ st = stk') (kk : Pf → zX E 0 0 nn v1 (pc + 3) lo stk') : zX E 0 0 nn v pc lo stk := by
  subst hs'
  exact z_callV C ho hz hRm M G hci hc hG hw hd hn ⟨hR0, hR, Nat.zero_le _, Nat.zero_le _⟩ hst hl8 d kk
theorem zc_S (C : zC E nn cc own Ts) {o : Nat} {zz : Prop} {R' : Room} (ho : zEo E = o) (hz : zEz E = zz) (hRm : zER E = R') {y : MethodName} {wsy ws' : List Cond} {rm : Room} {idx nA maxL : Nat} {Cn : String} {bytes : ByteArray} {ret' : Option FieldType} {As : List zAV} {Pf : Prop} {ret : Option zAV} {v1 : zHp}
    (M : zCT (zEl E) y wsy rm (zED E) (zEi E) (zEb E) o zz nn As v nn Pf ret v1 0 0) (hG : GoodIn Ts (va_wsS own idx y wsy)) (hw : wsy = .code y bytes maxL ret' :: ws')
    (hd : y.cls = Cn ∧ y.cls ≠ "java/lang/invoke/MethodHandle" ∧ y.cls ≠ "java/lang/invoke/VarHandle" ∧ (parseMethodDescriptor y.desc).map (fun d => d.parameters.length) = some nA) (hn : As.length = nA) (hR0 : rm.cells = 0 ∧ rm.slots = 0) (hR : rm.frames + 1 ≤ R'.frames ∧ 8 + (maxL + 11) + rm.locals ≤ R'.locals) (st : List zAV) (hst : stk = As.reverse ++ st) (hl8 : st.length ≤ 8) (d : decode cc pc = .ok (.invokestatic idx, 3))
    (stk' : List zAV) (hs' : ret.toList ++ st = stk') (kk : Pf → zX E 0 0 nn v1 (pc + 3) lo stk') : zX E 0 0 nn v pc lo stk := by
  subst hs'
  exact z_callS C ho hz hRm M hG hw hd hn ⟨hR0, hR, Nat.zero_le _, Nat.zero_le _⟩ hst hl8 d kk
theorem za_iald (C : zC E nn cc own Ts) {a N : Nat} {i M : Int} (G : zG E nn a 20 N) (hM : (N : Int) = M) (hN : N ≤ 2147483647) (q : 0 ≤ i ∧ i < M) (d : decode cc pc = .ok (.iaload, 1)) (kk : zX E k n nn v (pc + 1) lo (zi (v a i) :: st)) : zX E k n nn v pc lo (zi i :: zr a :: st) := z_iald C G hN q.1 (by rw [hM]; exact q.2) d kk
theorem za_zald (C : zC E nn cc own Ts) {a N : Nat} {i M : Int} (G : zG E nn a 21 N) (hM : (N : Int) = M) (hN : N ≤ 2147483647) (q : 0 ≤ i ∧ i < M) (d : decode cc pc = .ok (.baload, 1)) (kk : zX E k n nn v (pc + 1) lo (zi (v a i) :: st)) : zX E k n nn v pc lo (zi i :: zr a :: st) := z_zald C G hN q.1 (by rw [hM]; exact q.2) d kk
theorem za_bald (C : zC E nn cc own Ts) {a N : Nat} {i M : Int} (G : zG E nn a 22 N) (hM : (N : Int) = M) (hN : N ≤ 2147483647) (q : 0 ≤ i ∧ i < M) (d : decode cc pc = .ok (.baload, 1)) (kk : zX E k n nn v (pc + 1) lo (zi (v a i) :: st)) : zX E k n nn v pc lo (zi i :: zr a :: st) := z_bald C G hN q.1 (by rw [hM]; exact q.2) d kk
theorem za_iast (C : zC E nn cc own Ts) {a N : Nat} {i x M : Int} (G : zG E nn a 20 N) (hM : (N : Int) = M) (hN : N ≤ 2147483647) (q : 0 ≤ i ∧ i < M) {v1 : zHp} (e : v1 = zst v a i x) (d : decode cc pc = .ok (.iastore, 1)) (kk : zX E k n nn v1 (pc + 1) lo st) : zX E k n nn v pc lo (zi x :: zi i :: zr a :: st) := z_iast C G hN q.1 (by rw [hM]; exact q.2) d (fun v2 e2 => by rw [e2, ← e]; exact kk)
theorem za_zast (C : zC E nn cc own Ts) {a N : Nat} {i x M : Int} (G : zG E nn a 21 N) (hM : (N : Int) = M) (hN : N ≤ 2147483647) (q : 0 ≤ i ∧ i < M) (hx : x = 0 ∨ x = 1) {v1 : zHp} (e : v1 = zst v a i x) (d : decode cc pc = .ok (.bastore, 1)) (kk : zX E k n nn v1 (pc + 1) lo st) : zX E k n nn v pc lo (zi x :: zi i :: zr a :: st) := z_zast C G hN q.1 (by rw [hM]; exact q.2) hx d (fun v2 e2 => by rw [e2, ← e]; exact kk)
theorem za_bast (C : zC E nn cc own Ts) {a N : Nat} {i x M : Int} (G : zG E nn a 22 N) (hM : (N : Int) = M) (hN : N ≤ 2147483647) (q : 0 ≤ i ∧ i < M) (hx : (zI x).toInt8.toInt32 = zI x) {v1 : zHp} (e : v1 = zst v a i x) (d : decode cc pc = .ok (.bastore, 1)) (kk : zX E k n nn v1 (pc + 1) lo st) : zX E k n nn v pc lo (zi x :: zi i :: zr a :: st) := z_bast C G hN q.1 (by rw [hM]; exact q.2) hx d (fun v2 e2 => by rw [e2, ← e]; exact kk)
theorem zK_lt : ∀ a, zK a ≠ (99, 0) → a < 161 := by
  intro a h
  rcases Nat.lt_or_ge a 161 with q | q
  · exact q
  · exact absurd (show zK a = (99, 0) by unfold zK; rw [List.getD_eq_getElem?_getD, List.getElem?_eq_none (by exact q)]; rfl) h
theorem zG_c {a t m : Nat} (ho : zEo E = 0) (h : zK a = (t, m)) (hc : (List.range 161).all (fun a => !(zK a == (t, m)) || decide (a < 137)) = true) (ht : (t, m) ≠ (99, 0)) : zG E 137 a t m := by
  have h1 := zK_lt a (by rw [h]; exact ht)
  have h2 := List.all_eq_true.mp hc a (List.mem_range.mpr h1)
  rw [h] at h2
  simp at h2
  exact ⟨h, by omega, by omega⟩
theorem zG_m {a t m : Nat} (ho : zEo E = 137) (h : zK a = (t, m)) (hc : (List.range 161).all (fun a => !(zK a == (t, m)) || decide (137 ≤ a)) = true) (ht : (t, m) ≠ (99, 0)) : zG E 24 a t m := by
  have h1 := zK_lt a (by rw [h]; exact ht)
  have h2 := List.all_eq_true.mp hc a (List.mem_range.mpr h1)
  rw [h] at h2
  simp at h2
  exact ⟨h, by omega, by omega⟩
theorem kg_0 {a : Nat} (ho : zEo E = 0) (h : zK a = (0, 9)) : zG E 137 a 0 9 := zG_c ho h (by decide +kernel) (by decide)
theorem kg_1 {a : Nat} (ho : zEo E = 0) (h : zK a = (1, 3)) : zG E 137 a 1 3 := zG_c ho h (by decide +kernel) (by decide)
theorem kg_2 {a : Nat} (ho : zEo E = 0) (h : zK a = (2, 5)) : zG E 137 a 2 5 := zG_c ho h (by decide +kernel) (by decide)
theorem kg_3 {a : Nat} (ho : zEo E = 0) (h : zK a = (3, 5)) : zG E 137 a 3 5 := zG_c ho h (by decide +kernel) (by decide)
theorem kg_4 {a : Nat} (ho : zEo E = 0) (h : zK a = (4, 3)) : zG E 137 a 4 3 := zG_c ho h (by decide +kernel) (by decide)
theorem kg_5 {a : Nat} (ho : zEo E = 0) (h : zK a = (5, 5)) : zG E 137 a 5 5 := zG_c ho h (by decide +kernel) (by decide)
theorem kg_6 {a : Nat} (ho : zEo E = 0) (h : zK a = (6, 2)) : zG E 137 a 6 2 := zG_c ho h (by decide +kernel) (by decide)
theorem kg_7 {a : Nat} (ho : zEo E = 0) (h : zK a = (7, 10)) : zG E 137 a 7 10 := zG_c ho h (by decide +kernel) (by decide)
theorem kg_8 {a : Nat} (ho : zEo E = 0) (h : zK a = (8, 14)) : zG E 137 a 8 14 := zG_c ho h (by decide +kernel) (by decide)
theorem kg_9 {a : Nat} (ho : zEo E = 0) (h : zK a = (9, 6)) : zG E 137 a 9 6 := zG_c ho h (by decide +kernel) (by decide)
theorem kg_10 {a : Nat} (ho : zEo E = 0) (h : zK a = (10, 5)) : zG E 137 a 10 5 := zG_c ho h (by decide +kernel) (by decide)
theorem kg_11 {a : Nat} (ho : zEo E = 0) (h : zK a = (11, 10)) : zG E 137 a 11 10 := zG_c ho h (by decide +kernel) (by decide)
theorem ka_20_2692 {a : Nat} (ho : zEo E = 0) (h : zK a = (20, 2692)) : zG E 137 a 20 2692 := zG_c ho h (by decide +kernel) (by decide)
theorem ka_20_680 {a : Nat} (ho : zEo E = 137) (h : zK a = (20, 680)) : zG E 24 a 20 680 := zG_m ho h (by decide +kernel) (by decide)
theorem lg_0 (ho : zEo E = 0) : zG E 137 0 11 10 := ⟨rfl, by omega, by omega⟩
theorem lg_1 (ho : zEo E = 0) : zG E 137 1 9 6 := ⟨rfl, by omega, by omega⟩
theorem lg_2 (ho : zEo E = 0) : zG E 137 2 20 400 := ⟨rfl, by omega, by omega⟩
theorem lg_3 (ho : zEo E = 0) : zG E 137 3 6 2 := ⟨rfl, by omega, by omega⟩
theorem lg_4 (ho : zEo E = 0) : zG E 137 4 7 10 := ⟨rfl, by omega, by omega⟩
theorem lg_5 (ho : zEo E = 0) : zG E 137 5 2 5 := ⟨rfl, by omega, by omega⟩
theorem lg_6 (ho : zEo E = 0) : zG E 137 6 24 8 := ⟨rfl, by omega, by omega⟩
theorem lg_7 (ho : zEo E = 0) : zG E 137 7 20 4 := ⟨rfl, by omega, by omega⟩
theorem lg_8 (ho : zEo E = 0) : zG E 137 8 5 5 := ⟨rfl, by omega, by omega⟩
theorem lg_9 (ho : zEo E = 0) : zG E 137 9 5 5 := ⟨rfl, by omega, by omega⟩
theorem lg_10 (ho : zEo E = 0) : zG E 137 10 5 5 := ⟨rfl, by omega, by omega⟩
theorem lg_11 (ho : zEo E = 0) : zG E 137 11 5 5 := ⟨rfl, by omega, by omega⟩
theorem lg_12 (ho : zEo E = 0) : zG E 137 12 5 5 := ⟨rfl, by omega, by omega⟩
theorem lg_13 (ho : zEo E = 0) : zG E 137 13 5 5 := ⟨rfl, by omega, by omega⟩
theorem lg_14 (ho : zEo E = 0) : zG E 137 14 5 5 := ⟨rfl, by omega, by omega⟩
theorem lg_15 (ho : zEo E = 0) : zG E 137 15 5 5 := ⟨rfl, by omega, by omega⟩
theorem lg_16 (ho : zEo E = 0) : zG E 137 16 7 10 := ⟨rfl, by omega, by omega⟩
theorem lg_17 (ho : zEo E = 0) : zG E 137 17 2 5 := ⟨rfl, by omega, by omega⟩
theorem lg_18 (ho : zEo E = 0) : zG E 137 18 24 8 := ⟨rfl, by omega, by omega⟩
theorem lg_19 (ho : zEo E = 0) : zG E 137 19 20 4 := ⟨rfl, by omega, by omega⟩
theorem lg_20 (ho : zEo E = 0) : zG E 137 20 5 5 := ⟨rfl, by omega, by omega⟩
theorem lg_21 (ho : zEo E = 0) : zG E 137 21 5 5 := ⟨rfl, by omega, by omega⟩
theorem lg_22 (ho : zEo E = 0) : zG E 137 22 5 5 := ⟨rfl, by omega, by omega⟩
theorem lg_23 (ho : zEo E = 0) : zG E 137 23 5 5 := ⟨rfl, by omega, by omega⟩
theorem lg_24 (ho : zEo E = 0) : zG E 137 24 5 5 := ⟨rfl, by omega, by omega⟩
theorem lg_25 (ho : zEo E = 0) : zG E 137 25 5 5 := ⟨rfl, by omega, by omega⟩
theorem lg_26 (ho : zEo E = 0) : zG E 137 26 5 5 := ⟨rfl, by omega, by omega⟩
theorem lg_27 (ho : zEo E = 0) : zG E 137 27 5 5 := ⟨rfl, by omega, by omega⟩
theorem lg_28 (ho : zEo E = 0) : zG E 137 28 23 4 := ⟨rfl, by omega, by omega⟩
theorem lg_29 (ho : zEo E = 0) : zG E 137 29 25 4 := ⟨rfl, by omega, by omega⟩
theorem lg_30 (ho : zEo E = 0) : zG E 137 30 1 3 := ⟨rfl, by omega, by omega⟩
theorem lg_31 (ho : zEo E = 0) : zG E 137 31 20 60 := ⟨rfl, by omega, by omega⟩
theorem lg_32 (ho : zEo E = 0) : zG E 137 32 20 60 := ⟨rfl, by omega, by omega⟩
theorem lg_33 (ho : zEo E = 0) : zG E 137 33 8 14 := ⟨rfl, by omega, by omega⟩
theorem lg_34 (ho : zEo E = 0) : zG E 137 34 20 60 := ⟨rfl, by omega, by omega⟩
theorem lg_35 (ho : zEo E = 0) : zG E 137 35 20 30 := ⟨rfl, by omega, by omega⟩
theorem lg_36 (ho : zEo E = 0) : zG E 137 36 20 30 := ⟨rfl, by omega, by omega⟩
theorem lg_37 (ho : zEo E = 0) : zG E 137 37 20 30 := ⟨rfl, by omega, by omega⟩
theorem lg_38 (ho : zEo E = 0) : zG E 137 38 20 2692 := ⟨rfl, by omega, by omega⟩
theorem lg_39 (ho : zEo E = 0) : zG E 137 39 20 2692 := ⟨rfl, by omega, by omega⟩
theorem lg_40 (ho : zEo E = 0) : zG E 137 40 20 2692 := ⟨rfl, by omega, by omega⟩
theorem lg_41 (ho : zEo E = 0) : zG E 137 41 4 3 := ⟨rfl, by omega, by omega⟩
theorem lg_42 (ho : zEo E = 0) : zG E 137 42 20 60 := ⟨rfl, by omega, by omega⟩
theorem lg_43 (ho : zEo E = 0) : zG E 137 43 20 60 := ⟨rfl, by omega, by omega⟩
theorem lg_44 (ho : zEo E = 0) : zG E 137 44 4 3 := ⟨rfl, by omega, by omega⟩
theorem lg_45 (ho : zEo E = 0) : zG E 137 45 20 60 := ⟨rfl, by omega, by omega⟩
theorem lg_46 (ho : zEo E = 0) : zG E 137 46 20 60 := ⟨rfl, by omega, by omega⟩
theorem lg_47 (ho : zEo E = 0) : zG E 137 47 20 4 := ⟨rfl, by omega, by omega⟩
theorem lg_48 (ho : zEo E = 0) : zG E 137 48 1 3 := ⟨rfl, by omega, by omega⟩
theorem lg_49 (ho : zEo E = 0) : zG E 137 49 20 60 := ⟨rfl, by omega, by omega⟩
theorem lg_50 (ho : zEo E = 0) : zG E 137 50 20 60 := ⟨rfl, by omega, by omega⟩
theorem lg_51 (ho : zEo E = 0) : zG E 137 51 8 14 := ⟨rfl, by omega, by omega⟩
theorem lg_52 (ho : zEo E = 0) : zG E 137 52 20 60 := ⟨rfl, by omega, by omega⟩
theorem lg_53 (ho : zEo E = 0) : zG E 137 53 20 30 := ⟨rfl, by omega, by omega⟩
theorem lg_54 (ho : zEo E = 0) : zG E 137 54 20 30 := ⟨rfl, by omega, by omega⟩
theorem lg_55 (ho : zEo E = 0) : zG E 137 55 20 30 := ⟨rfl, by omega, by omega⟩
theorem lg_56 (ho : zEo E = 0) : zG E 137 56 20 2692 := ⟨rfl, by omega, by omega⟩
theorem lg_57 (ho : zEo E = 0) : zG E 137 57 20 2692 := ⟨rfl, by omega, by omega⟩
theorem lg_58 (ho : zEo E = 0) : zG E 137 58 20 2692 := ⟨rfl, by omega, by omega⟩
theorem lg_59 (ho : zEo E = 0) : zG E 137 59 4 3 := ⟨rfl, by omega, by omega⟩
theorem lg_60 (ho : zEo E = 0) : zG E 137 60 20 60 := ⟨rfl, by omega, by omega⟩
theorem lg_61 (ho : zEo E = 0) : zG E 137 61 20 60 := ⟨rfl, by omega, by omega⟩
theorem lg_62 (ho : zEo E = 0) : zG E 137 62 4 3 := ⟨rfl, by omega, by omega⟩
theorem lg_63 (ho : zEo E = 0) : zG E 137 63 20 60 := ⟨rfl, by omega, by omega⟩
theorem lg_64 (ho : zEo E = 0) : zG E 137 64 20 60 := ⟨rfl, by omega, by omega⟩
theorem lg_65 (ho : zEo E = 0) : zG E 137 65 20 4 := ⟨rfl, by omega, by omega⟩
theorem lg_66 (ho : zEo E = 0) : zG E 137 66 1 3 := ⟨rfl, by omega, by omega⟩
theorem lg_67 (ho : zEo E = 0) : zG E 137 67 20 60 := ⟨rfl, by omega, by omega⟩
theorem lg_68 (ho : zEo E = 0) : zG E 137 68 20 60 := ⟨rfl, by omega, by omega⟩
theorem lg_69 (ho : zEo E = 0) : zG E 137 69 8 14 := ⟨rfl, by omega, by omega⟩
theorem lg_70 (ho : zEo E = 0) : zG E 137 70 20 60 := ⟨rfl, by omega, by omega⟩
theorem lg_71 (ho : zEo E = 0) : zG E 137 71 20 30 := ⟨rfl, by omega, by omega⟩
theorem lg_72 (ho : zEo E = 0) : zG E 137 72 20 30 := ⟨rfl, by omega, by omega⟩
theorem lg_73 (ho : zEo E = 0) : zG E 137 73 20 30 := ⟨rfl, by omega, by omega⟩
theorem lg_74 (ho : zEo E = 0) : zG E 137 74 20 2692 := ⟨rfl, by omega, by omega⟩
theorem lg_75 (ho : zEo E = 0) : zG E 137 75 20 2692 := ⟨rfl, by omega, by omega⟩
theorem lg_76 (ho : zEo E = 0) : zG E 137 76 20 2692 := ⟨rfl, by omega, by omega⟩
theorem lg_77 (ho : zEo E = 0) : zG E 137 77 4 3 := ⟨rfl, by omega, by omega⟩
theorem lg_78 (ho : zEo E = 0) : zG E 137 78 20 60 := ⟨rfl, by omega, by omega⟩
theorem lg_79 (ho : zEo E = 0) : zG E 137 79 20 60 := ⟨rfl, by omega, by omega⟩
theorem lg_80 (ho : zEo E = 0) : zG E 137 80 4 3 := ⟨rfl, by omega, by omega⟩
theorem lg_81 (ho : zEo E = 0) : zG E 137 81 20 60 := ⟨rfl, by omega, by omega⟩
theorem lg_82 (ho : zEo E = 0) : zG E 137 82 20 60 := ⟨rfl, by omega, by omega⟩
theorem lg_83 (ho : zEo E = 0) : zG E 137 83 20 4 := ⟨rfl, by omega, by omega⟩
theorem lg_84 (ho : zEo E = 0) : zG E 137 84 1 3 := ⟨rfl, by omega, by omega⟩
theorem lg_85 (ho : zEo E = 0) : zG E 137 85 20 60 := ⟨rfl, by omega, by omega⟩
theorem lg_86 (ho : zEo E = 0) : zG E 137 86 20 60 := ⟨rfl, by omega, by omega⟩
theorem lg_87 (ho : zEo E = 0) : zG E 137 87 8 14 := ⟨rfl, by omega, by omega⟩
theorem lg_88 (ho : zEo E = 0) : zG E 137 88 20 60 := ⟨rfl, by omega, by omega⟩
theorem lg_89 (ho : zEo E = 0) : zG E 137 89 20 30 := ⟨rfl, by omega, by omega⟩
theorem lg_90 (ho : zEo E = 0) : zG E 137 90 20 30 := ⟨rfl, by omega, by omega⟩
theorem lg_91 (ho : zEo E = 0) : zG E 137 91 20 30 := ⟨rfl, by omega, by omega⟩
theorem lg_92 (ho : zEo E = 0) : zG E 137 92 20 2692 := ⟨rfl, by omega, by omega⟩
theorem lg_93 (ho : zEo E = 0) : zG E 137 93 20 2692 := ⟨rfl, by omega, by omega⟩
theorem lg_94 (ho : zEo E = 0) : zG E 137 94 20 2692 := ⟨rfl, by omega, by omega⟩
theorem lg_95 (ho : zEo E = 0) : zG E 137 95 4 3 := ⟨rfl, by omega, by omega⟩
theorem lg_96 (ho : zEo E = 0) : zG E 137 96 20 60 := ⟨rfl, by omega, by omega⟩
theorem lg_97 (ho : zEo E = 0) : zG E 137 97 20 60 := ⟨rfl, by omega, by omega⟩
theorem lg_98 (ho : zEo E = 0) : zG E 137 98 4 3 := ⟨rfl, by omega, by omega⟩
theorem lg_99 (ho : zEo E = 0) : zG E 137 99 20 60 := ⟨rfl, by omega, by omega⟩
theorem lg_100 (ho : zEo E = 0) : zG E 137 100 20 60 := ⟨rfl, by omega, by omega⟩
theorem lg_101 (ho : zEo E = 0) : zG E 137 101 20 4 := ⟨rfl, by omega, by omega⟩
theorem lg_102 (ho : zEo E = 0) : zG E 137 102 3 5 := ⟨rfl, by omega, by omega⟩
theorem lg_103 (ho : zEo E = 0) : zG E 137 103 20 16 := ⟨rfl, by omega, by omega⟩
theorem lg_104 (ho : zEo E = 0) : zG E 137 104 20 16 := ⟨rfl, by omega, by omega⟩
theorem lg_105 (ho : zEo E = 0) : zG E 137 105 20 16 := ⟨rfl, by omega, by omega⟩
theorem lg_106 (ho : zEo E = 0) : zG E 137 106 21 16 := ⟨rfl, by omega, by omega⟩
theorem lg_107 (ho : zEo E = 0) : zG E 137 107 1 3 := ⟨rfl, by omega, by omega⟩
theorem lg_108 (ho : zEo E = 0) : zG E 137 108 20 60 := ⟨rfl, by omega, by omega⟩
theorem lg_109 (ho : zEo E = 0) : zG E 137 109 20 60 := ⟨rfl, by omega, by omega⟩
theorem lg_110 (ho : zEo E = 0) : zG E 137 110 8 14 := ⟨rfl, by omega, by omega⟩
theorem lg_111 (ho : zEo E = 0) : zG E 137 111 20 60 := ⟨rfl, by omega, by omega⟩
theorem lg_112 (ho : zEo E = 0) : zG E 137 112 20 30 := ⟨rfl, by omega, by omega⟩
theorem lg_113 (ho : zEo E = 0) : zG E 137 113 20 30 := ⟨rfl, by omega, by omega⟩
theorem lg_114 (ho : zEo E = 0) : zG E 137 114 20 30 := ⟨rfl, by omega, by omega⟩
theorem lg_115 (ho : zEo E = 0) : zG E 137 115 20 2692 := ⟨rfl, by omega, by omega⟩
theorem lg_116 (ho : zEo E = 0) : zG E 137 116 20 2692 := ⟨rfl, by omega, by omega⟩
theorem lg_117 (ho : zEo E = 0) : zG E 137 117 20 2692 := ⟨rfl, by omega, by omega⟩
theorem lg_118 (ho : zEo E = 0) : zG E 137 118 4 3 := ⟨rfl, by omega, by omega⟩
theorem lg_119 (ho : zEo E = 0) : zG E 137 119 20 60 := ⟨rfl, by omega, by omega⟩
theorem lg_120 (ho : zEo E = 0) : zG E 137 120 20 60 := ⟨rfl, by omega, by omega⟩
theorem lg_121 (ho : zEo E = 0) : zG E 137 121 4 3 := ⟨rfl, by omega, by omega⟩
theorem lg_122 (ho : zEo E = 0) : zG E 137 122 20 60 := ⟨rfl, by omega, by omega⟩
theorem lg_123 (ho : zEo E = 0) : zG E 137 123 20 60 := ⟨rfl, by omega, by omega⟩
theorem lg_124 (ho : zEo E = 0) : zG E 137 124 20 4 := ⟨rfl, by omega, by omega⟩
theorem lg_125 (ho : zEo E = 0) : zG E 137 125 0 9 := ⟨rfl, by omega, by omega⟩
theorem lg_126 (ho : zEo E = 0) : zG E 137 126 10 5 := ⟨rfl, by omega, by omega⟩
theorem lg_127 (ho : zEo E = 0) : zG E 137 127 20 676 := ⟨rfl, by omega, by omega⟩
theorem lg_128 (ho : zEo E = 0) : zG E 137 128 20 676 := ⟨rfl, by omega, by omega⟩
theorem lg_129 (ho : zEo E = 0) : zG E 137 129 20 676 := ⟨rfl, by omega, by omega⟩
theorem lg_130 (ho : zEo E = 0) : zG E 137 130 20 676 := ⟨rfl, by omega, by omega⟩
theorem lg_131 (ho : zEo E = 0) : zG E 137 131 20 676 := ⟨rfl, by omega, by omega⟩
theorem lg_132 (ho : zEo E = 0) : zG E 137 132 20 676 := ⟨rfl, by omega, by omega⟩
theorem lg_133 (ho : zEo E = 0) : zG E 137 133 20 676 := ⟨rfl, by omega, by omega⟩
theorem lg_134 (ho : zEo E = 0) : zG E 137 134 20 676 := ⟨rfl, by omega, by omega⟩
theorem lg_135 (ho : zEo E = 0) : zG E 137 135 20 676 := ⟨rfl, by omega, by omega⟩
theorem lg_136 (ho : zEo E = 0) : zG E 137 136 20 29068 := ⟨rfl, by omega, by omega⟩
theorem lg_137 (ho : zEo E = 137) : zG E 24 137 12 38 := ⟨rfl, by omega, by omega⟩
theorem lg_138 (ho : zEo E = 137) : zG E 24 138 22 400 := ⟨rfl, by omega, by omega⟩
theorem lg_139 (ho : zEo E = 137) : zG E 24 139 20 51 := ⟨rfl, by omega, by omega⟩
theorem lg_140 (ho : zEo E = 137) : zG E 24 140 20 51 := ⟨rfl, by omega, by omega⟩
theorem lg_141 (ho : zEo E = 137) : zG E 24 141 20 4 := ⟨rfl, by omega, by omega⟩
theorem lg_142 (ho : zEo E = 137) : zG E 24 142 20 244 := ⟨rfl, by omega, by omega⟩
theorem lg_143 (ho : zEo E = 137) : zG E 24 143 20 244 := ⟨rfl, by omega, by omega⟩
theorem lg_144 (ho : zEo E = 137) : zG E 24 144 20 64 := ⟨rfl, by omega, by omega⟩
theorem lg_145 (ho : zEo E = 137) : zG E 24 145 20 61 := ⟨rfl, by omega, by omega⟩
theorem lg_146 (ho : zEo E = 137) : zG E 24 146 20 31 := ⟨rfl, by omega, by omega⟩
theorem lg_147 (ho : zEo E = 137) : zG E 24 147 20 31 := ⟨rfl, by omega, by omega⟩
theorem lg_148 (ho : zEo E = 137) : zG E 24 148 21 2720 := ⟨rfl, by omega, by omega⟩
theorem lg_149 (ho : zEo E = 137) : zG E 24 149 20 680 := ⟨rfl, by omega, by omega⟩
theorem lg_150 (ho : zEo E = 137) : zG E 24 150 20 680 := ⟨rfl, by omega, by omega⟩
theorem lg_151 (ho : zEo E = 137) : zG E 24 151 20 680 := ⟨rfl, by omega, by omega⟩
theorem lg_152 (ho : zEo E = 137) : zG E 24 152 20 680 := ⟨rfl, by omega, by omega⟩
theorem lg_153 (ho : zEo E = 137) : zG E 24 153 20 680 := ⟨rfl, by omega, by omega⟩
theorem lg_154 (ho : zEo E = 137) : zG E 24 154 20 463000 := ⟨rfl, by omega, by omega⟩
theorem lg_155 (ho : zEo E = 137) : zG E 24 155 20 680 := ⟨rfl, by omega, by omega⟩
theorem lg_156 (ho : zEo E = 137) : zG E 24 156 20 680 := ⟨rfl, by omega, by omega⟩
theorem lg_157 (ho : zEo E = 137) : zG E 24 157 21 5520 := ⟨rfl, by omega, by omega⟩
theorem lg_158 (ho : zEo E = 137) : zG E 24 158 20 8 := ⟨rfl, by omega, by omega⟩
theorem lg_159 (ho : zEo E = 137) : zG E 24 159 21 8 := ⟨rfl, by omega, by omega⟩
theorem lg_160 (ho : zEo E = 137) : zG E 24 160 21 2720 := ⟨rfl, by omega, by omega⟩
theorem gl_0_0 (C : zC E nn cc own Ts) {a idx t : Nat} (G : zG E nn a 0 9) (hin : ∀ w ∈ u_ws RX0 TX0 9, w ∈ Ts) (hlink : Cond.fieldLink own idx "PremiumHours$BestWay" "work" "LPremiumHours$Week;" ∈ Ts) (hv : v a 0 = (t : Int)) (d : decode cc pc = .ok (.getfield idx, 3)) (kk : zX E k n nn v (pc + 3) lo (zr t :: st)) : zX E k n nn v pc lo (zr a :: st) := z_getR (Cn := RX0) (T := TX0) C G (by decide) rfl hin 0 rfl (by decide) rfl hlink rfl hv d kk
theorem vl_0_0 {a : Nat} (ho : zEo E = 0) (hv : zV 0 137 v) (G : zG E 137 a 0 9) : v a 0 = ((a + 1 : Nat) : Int) := hv.2 a (by have := G.2.1; omega) (by have := G.2.2; omega) 0 (a + 1) (by rw [G.1]; rfl)
theorem lk_0_0 {a : Nat} (ho : zEo E = 0) (G : zG E 137 a 0 9) : zG E 137 (a + 1) 10 5 := by
  have h1 := zK_lt a (by rw [G.1]; decide)
  have h2 := List.all_eq_true.mp (show (List.range 161).all (fun a => !(zK a == (0, 9)) || (zK (a + 1) == (10, 5) && decide (a + 1 < 137))) = true by decide +kernel) a (List.mem_range.mpr h1)
  rw [G.1] at h2
  simp at h2
  have h3 := G.2.1
  exact ⟨h2.1, by omega, by omega⟩
theorem gl_0_1 (C : zC E nn cc own Ts) {a idx t : Nat} (G : zG E nn a 0 9) (hin : ∀ w ∈ u_ws RX0 TX0 9, w ∈ Ts) (hlink : Cond.fieldLink own idx "PremiumHours$BestWay" "counting" "[I" ∈ Ts) (hv : v a 1 = (t : Int)) (d : decode cc pc = .ok (.getfield idx, 3)) (kk : zX E k n nn v (pc + 3) lo (zr t :: st)) : zX E k n nn v pc lo (zr a :: st) := z_getR (Cn := RX0) (T := TX0) C G (by decide) rfl hin 1 rfl (by decide) rfl hlink rfl hv d kk
theorem vl_0_1 {a : Nat} (ho : zEo E = 0) (hv : zV 0 137 v) (G : zG E 137 a 0 9) : v a 1 = ((a + 5 : Nat) : Int) := hv.2 a (by have := G.2.1; omega) (by have := G.2.2; omega) 1 (a + 5) (by rw [G.1]; rfl)
theorem lk_0_1 {a : Nat} (ho : zEo E = 0) (G : zG E 137 a 0 9) : zG E 137 (a + 5) 20 676 := by
  have h1 := zK_lt a (by rw [G.1]; decide)
  have h2 := List.all_eq_true.mp (show (List.range 161).all (fun a => !(zK a == (0, 9)) || (zK (a + 5) == (20, 676) && decide (a + 5 < 137))) = true by decide +kernel) a (List.mem_range.mpr h1)
  rw [G.1] at h2
  simp at h2
  have h3 := G.2.1
  exact ⟨h2.1, by omega, by omega⟩
theorem gl_0_2 (C : zC E nn cc own Ts) {a idx t : Nat} (G : zG E nn a 0 9) (hin : ∀ w ∈ u_ws RX0 TX0 9, w ∈ Ts) (hlink : Cond.fieldLink own idx "PremiumHours$BestWay" "other" "[I" ∈ Ts) (hv : v a 2 = (t : Int)) (d : decode cc pc = .ok (.getfield idx, 3)) (kk : zX E k n nn v (pc + 3) lo (zr t :: st)) : zX E k n nn v pc lo (zr a :: st) := z_getR (Cn := RX0) (T := TX0) C G (by decide) rfl hin 2 rfl (by decide) rfl hlink rfl hv d kk
theorem vl_0_2 {a : Nat} (ho : zEo E = 0) (hv : zV 0 137 v) (G : zG E 137 a 0 9) : v a 2 = ((a + 6 : Nat) : Int) := hv.2 a (by have := G.2.1; omega) (by have := G.2.2; omega) 2 (a + 6) (by rw [G.1]; rfl)
theorem lk_0_2 {a : Nat} (ho : zEo E = 0) (G : zG E 137 a 0 9) : zG E 137 (a + 6) 20 676 := by
  have h1 := zK_lt a (by rw [G.1]; decide)
  have h2 := List.all_eq_true.mp (show (List.range 161).all (fun a => !(zK a == (0, 9)) || (zK (a + 6) == (20, 676) && decide (a + 6 < 137))) = true by decide +kernel) a (List.mem_range.mpr h1)
  rw [G.1] at h2
  simp at h2
  have h3 := G.2.1
  exact ⟨h2.1, by omega, by omega⟩
theorem gl_0_3 (C : zC E nn cc own Ts) {a idx t : Nat} (G : zG E nn a 0 9) (hin : ∀ w ∈ u_ws RX0 TX0 9, w ∈ Ts) (hlink : Cond.fieldLink own idx "PremiumHours$BestWay" "weekCounting" "[I" ∈ Ts) (hv : v a 3 = (t : Int)) (d : decode cc pc = .ok (.getfield idx, 3)) (kk : zX E k n nn v (pc + 3) lo (zr t :: st)) : zX E k n nn v pc lo (zr a :: st) := z_getR (Cn := RX0) (T := TX0) C G (by decide) rfl hin 3 rfl (by decide) rfl hlink rfl hv d kk
theorem vl_0_3 {a : Nat} (ho : zEo E = 0) (hv : zV 0 137 v) (G : zG E 137 a 0 9) : v a 3 = ((a + 7 : Nat) : Int) := hv.2 a (by have := G.2.1; omega) (by have := G.2.2; omega) 3 (a + 7) (by rw [G.1]; rfl)
theorem lk_0_3 {a : Nat} (ho : zEo E = 0) (G : zG E 137 a 0 9) : zG E 137 (a + 7) 20 676 := by
  have h1 := zK_lt a (by rw [G.1]; decide)
  have h2 := List.all_eq_true.mp (show (List.range 161).all (fun a => !(zK a == (0, 9)) || (zK (a + 7) == (20, 676) && decide (a + 7 < 137))) = true by decide +kernel) a (List.mem_range.mpr h1)
  rw [G.1] at h2
  simp at h2
  have h3 := G.2.1
  exact ⟨h2.1, by omega, by omega⟩
theorem gl_0_4 (C : zC E nn cc own Ts) {a idx t : Nat} (G : zG E nn a 0 9) (hin : ∀ w ∈ u_ws RX0 TX0 9, w ∈ Ts) (hlink : Cond.fieldLink own idx "PremiumHours$BestWay" "weekOther" "[I" ∈ Ts) (hv : v a 4 = (t : Int)) (d : decode cc pc = .ok (.getfield idx, 3)) (kk : zX E k n nn v (pc + 3) lo (zr t :: st)) : zX E k n nn v pc lo (zr a :: st) := z_getR (Cn := RX0) (T := TX0) C G (by decide) rfl hin 4 rfl (by decide) rfl hlink rfl hv d kk
theorem vl_0_4 {a : Nat} (ho : zEo E = 0) (hv : zV 0 137 v) (G : zG E 137 a 0 9) : v a 4 = ((a + 8 : Nat) : Int) := hv.2 a (by have := G.2.1; omega) (by have := G.2.2; omega) 4 (a + 8) (by rw [G.1]; rfl)
theorem lk_0_4 {a : Nat} (ho : zEo E = 0) (G : zG E 137 a 0 9) : zG E 137 (a + 8) 20 676 := by
  have h1 := zK_lt a (by rw [G.1]; decide)
  have h2 := List.all_eq_true.mp (show (List.range 161).all (fun a => !(zK a == (0, 9)) || (zK (a + 8) == (20, 676) && decide (a + 8 < 137))) = true by decide +kernel) a (List.mem_range.mpr h1)
  rw [G.1] at h2
  simp at h2
  have h3 := G.2.1
  exact ⟨h2.1, by omega, by omega⟩
theorem gl_0_5 (C : zC E nn cc own Ts) {a idx t : Nat} (G : zG E nn a 0 9) (hin : ∀ w ∈ u_ws RX0 TX0 9, w ∈ Ts) (hlink : Cond.fieldLink own idx "PremiumHours$BestWay" "least" "[I" ∈ Ts) (hv : v a 5 = (t : Int)) (d : decode cc pc = .ok (.getfield idx, 3)) (kk : zX E k n nn v (pc + 3) lo (zr t :: st)) : zX E k n nn v pc lo (zr a :: st) := z_getR (Cn := RX0) (T := TX0) C G (by decide) rfl hin 5 rfl (by decide) rfl hlink rfl hv d kk
theorem vl_0_5 {a : Nat} (ho : zEo E = 0) (hv : zV 0 137 v) (G : zG E 137 a 0 9) : v a 5 = ((a + 9 : Nat) : Int) := hv.2 a (by have := G.2.1; omega) (by have := G.2.2; omega) 5 (a + 9) (by rw [G.1]; rfl)
theorem lk_0_5 {a : Nat} (ho : zEo E = 0) (G : zG E 137 a 0 9) : zG E 137 (a + 9) 20 676 := by
  have h1 := zK_lt a (by rw [G.1]; decide)
  have h2 := List.all_eq_true.mp (show (List.range 161).all (fun a => !(zK a == (0, 9)) || (zK (a + 9) == (20, 676) && decide (a + 9 < 137))) = true by decide +kernel) a (List.mem_range.mpr h1)
  rw [G.1] at h2
  simp at h2
  have h3 := G.2.1
  exact ⟨h2.1, by omega, by omega⟩
theorem gl_0_6 (C : zC E nn cc own Ts) {a idx t : Nat} (G : zG E nn a 0 9) (hin : ∀ w ∈ u_ws RX0 TX0 9, w ∈ Ts) (hlink : Cond.fieldLink own idx "PremiumHours$BestWay" "rest" "[I" ∈ Ts) (hv : v a 6 = (t : Int)) (d : decode cc pc = .ok (.getfield idx, 3)) (kk : zX E k n nn v (pc + 3) lo (zr t :: st)) : zX E k n nn v pc lo (zr a :: st) := z_getR (Cn := RX0) (T := TX0) C G (by decide) rfl hin 6 rfl (by decide) rfl hlink rfl hv d kk
theorem vl_0_6 {a : Nat} (ho : zEo E = 0) (hv : zV 0 137 v) (G : zG E 137 a 0 9) : v a 6 = ((a + 10 : Nat) : Int) := hv.2 a (by have := G.2.1; omega) (by have := G.2.2; omega) 6 (a + 10) (by rw [G.1]; rfl)
theorem lk_0_6 {a : Nat} (ho : zEo E = 0) (G : zG E 137 a 0 9) : zG E 137 (a + 10) 20 676 := by
  have h1 := zK_lt a (by rw [G.1]; decide)
  have h2 := List.all_eq_true.mp (show (List.range 161).all (fun a => !(zK a == (0, 9)) || (zK (a + 10) == (20, 676) && decide (a + 10 < 137))) = true by decide +kernel) a (List.mem_range.mpr h1)
  rw [G.1] at h2
  simp at h2
  have h3 := G.2.1
  exact ⟨h2.1, by omega, by omega⟩
theorem gl_0_7 (C : zC E nn cc own Ts) {a idx t : Nat} (G : zG E nn a 0 9) (hin : ∀ w ∈ u_ws RX0 TX0 9, w ∈ Ts) (hlink : Cond.fieldLink own idx "PremiumHours$BestWay" "marks" "[I" ∈ Ts) (hv : v a 7 = (t : Int)) (d : decode cc pc = .ok (.getfield idx, 3)) (kk : zX E k n nn v (pc + 3) lo (zr t :: st)) : zX E k n nn v pc lo (zr a :: st) := z_getR (Cn := RX0) (T := TX0) C G (by decide) rfl hin 7 rfl (by decide) rfl hlink rfl hv d kk
theorem vl_0_7 {a : Nat} (ho : zEo E = 0) (hv : zV 0 137 v) (G : zG E 137 a 0 9) : v a 7 = ((a + 11 : Nat) : Int) := hv.2 a (by have := G.2.1; omega) (by have := G.2.2; omega) 7 (a + 11) (by rw [G.1]; rfl)
theorem lk_0_7 {a : Nat} (ho : zEo E = 0) (G : zG E 137 a 0 9) : zG E 137 (a + 11) 20 29068 := by
  have h1 := zK_lt a (by rw [G.1]; decide)
  have h2 := List.all_eq_true.mp (show (List.range 161).all (fun a => !(zK a == (0, 9)) || (zK (a + 11) == (20, 29068) && decide (a + 11 < 137))) = true by decide +kernel) a (List.mem_range.mpr h1)
  rw [G.1] at h2
  simp at h2
  have h3 := G.2.1
  exact ⟨h2.1, by omega, by omega⟩
theorem gf_0_8 (C : zC E nn cc own Ts) {a idx : Nat} (G : zG E nn a 0 9) (hin : ∀ w ∈ u_ws RX0 TX0 9, w ∈ Ts) (hlink : Cond.fieldLink own idx "PremiumHours$BestWay" "top" "I" ∈ Ts) (d : decode cc pc = .ok (.getfield idx, 3)) (kk : zX E k n nn v (pc + 3) lo (zi (v a 8) :: st)) : zX E k n nn v pc lo (zr a :: st) := z_getI (Cn := RX0) (T := TX0) C G (by decide) rfl hin 8 rfl (by decide) rfl hlink rfl d kk
theorem pf_0_8 (C : zC E nn cc own Ts) {a idx : Nat} {x : Int} (G : zG E nn a 0 9) (hin : ∀ w ∈ u_ws RX0 TX0 9, w ∈ Ts) (hlink : Cond.fieldLink own idx "PremiumHours$BestWay" "top" "I" ∈ Ts) {v1 : zHp} (e : v1 = zst v a 8 x) (d : decode cc pc = .ok (.putfield idx, 3)) (kk : zX E k n nn v1 (pc + 3) lo st) : zX E k n nn v pc lo (zi x :: zr a :: st) := z_putI (jj := 8) (Cn := RX0) (T := TX0) C tyX0_ok nmX0 G (by decide) rfl hin 8 rfl (by decide) rfl hlink rfl rfl (ty := .int) (by decide +kernel) rfl rfl d (fun v2 e2 => by rw [e2, ← e]; exact kk)
theorem gl_1_0 (C : zC E nn cc own Ts) {a idx t : Nat} (G : zG E nn a 1 3) (hin : ∀ w ∈ u_ws RX1 TX1 3, w ∈ Ts) (hlink : Cond.fieldLink own idx "PremiumHours$Card" "moments" "[I" ∈ Ts) (hv : v a 0 = (t : Int)) (d : decode cc pc = .ok (.getfield idx, 3)) (kk : zX E k n nn v (pc + 3) lo (zr t :: st)) : zX E k n nn v pc lo (zr a :: st) := z_getR (Cn := RX1) (T := TX1) C G (by decide) rfl hin 0 rfl (by decide) rfl hlink rfl hv d kk
theorem vl_1_0 {a : Nat} (ho : zEo E = 0) (hv : zV 0 137 v) (G : zG E 137 a 1 3) : v a 0 = ((a + 1 : Nat) : Int) := hv.2 a (by have := G.2.1; omega) (by have := G.2.2; omega) 0 (a + 1) (by rw [G.1]; rfl)
theorem lk_1_0 {a : Nat} (ho : zEo E = 0) (G : zG E 137 a 1 3) : zG E 137 (a + 1) 20 60 := by
  have h1 := zK_lt a (by rw [G.1]; decide)
  have h2 := List.all_eq_true.mp (show (List.range 161).all (fun a => !(zK a == (1, 3)) || (zK (a + 1) == (20, 60) && decide (a + 1 < 137))) = true by decide +kernel) a (List.mem_range.mpr h1)
  rw [G.1] at h2
  simp at h2
  have h3 := G.2.1
  exact ⟨h2.1, by omega, by omega⟩
theorem gl_1_1 (C : zC E nn cc own Ts) {a idx t : Nat} (G : zG E nn a 1 3) (hin : ∀ w ∈ u_ws RX1 TX1 3, w ∈ Ts) (hlink : Cond.fieldLink own idx "PremiumHours$Card" "kinds" "[I" ∈ Ts) (hv : v a 1 = (t : Int)) (d : decode cc pc = .ok (.getfield idx, 3)) (kk : zX E k n nn v (pc + 3) lo (zr t :: st)) : zX E k n nn v pc lo (zr a :: st) := z_getR (Cn := RX1) (T := TX1) C G (by decide) rfl hin 1 rfl (by decide) rfl hlink rfl hv d kk
theorem vl_1_1 {a : Nat} (ho : zEo E = 0) (hv : zV 0 137 v) (G : zG E 137 a 1 3) : v a 1 = ((a + 2 : Nat) : Int) := hv.2 a (by have := G.2.1; omega) (by have := G.2.2; omega) 1 (a + 2) (by rw [G.1]; rfl)
theorem lk_1_1 {a : Nat} (ho : zEo E = 0) (G : zG E 137 a 1 3) : zG E 137 (a + 2) 20 60 := by
  have h1 := zK_lt a (by rw [G.1]; decide)
  have h2 := List.all_eq_true.mp (show (List.range 161).all (fun a => !(zK a == (1, 3)) || (zK (a + 2) == (20, 60) && decide (a + 2 < 137))) = true by decide +kernel) a (List.mem_range.mpr h1)
  rw [G.1] at h2
  simp at h2
  have h3 := G.2.1
  exact ⟨h2.1, by omega, by omega⟩
theorem gf_1_2 (C : zC E nn cc own Ts) {a idx : Nat} (G : zG E nn a 1 3) (hin : ∀ w ∈ u_ws RX1 TX1 3, w ∈ Ts) (hlink : Cond.fieldLink own idx "PremiumHours$Card" "size" "I" ∈ Ts) (d : decode cc pc = .ok (.getfield idx, 3)) (kk : zX E k n nn v (pc + 3) lo (zi (v a 2) :: st)) : zX E k n nn v pc lo (zr a :: st) := z_getI (Cn := RX1) (T := TX1) C G (by decide) rfl hin 2 rfl (by decide) rfl hlink rfl d kk
theorem pf_1_2 (C : zC E nn cc own Ts) {a idx : Nat} {x : Int} (G : zG E nn a 1 3) (hin : ∀ w ∈ u_ws RX1 TX1 3, w ∈ Ts) (hlink : Cond.fieldLink own idx "PremiumHours$Card" "size" "I" ∈ Ts) {v1 : zHp} (e : v1 = zst v a 2 x) (d : decode cc pc = .ok (.putfield idx, 3)) (kk : zX E k n nn v1 (pc + 3) lo st) : zX E k n nn v pc lo (zi x :: zr a :: st) := z_putI (jj := 2) (Cn := RX1) (T := TX1) C tyX1_ok nmX1 G (by decide) rfl hin 2 rfl (by decide) rfl hlink rfl rfl (ty := .int) (by decide +kernel) rfl rfl d (fun v2 e2 => by rw [e2, ← e]; exact kk)
theorem gf_2_0 (C : zC E nn cc own Ts) {a idx : Nat} (G : zG E nn a 2 5) (hin : ∀ w ∈ u_ws RX2 TX2 5, w ∈ Ts) (hlink : Cond.fieldLink own idx "PremiumHours$Clock" "day" "I" ∈ Ts) (d : decode cc pc = .ok (.getfield idx, 3)) (kk : zX E k n nn v (pc + 3) lo (zi (v a 0) :: st)) : zX E k n nn v pc lo (zr a :: st) := z_getI (Cn := RX2) (T := TX2) C G (by decide) rfl hin 0 rfl (by decide) rfl hlink rfl d kk
theorem pf_2_0 (C : zC E nn cc own Ts) {a idx : Nat} {x : Int} (G : zG E nn a 2 5) (hin : ∀ w ∈ u_ws RX2 TX2 5, w ∈ Ts) (hlink : Cond.fieldLink own idx "PremiumHours$Clock" "day" "I" ∈ Ts) {v1 : zHp} (e : v1 = zst v a 0 x) (d : decode cc pc = .ok (.putfield idx, 3)) (kk : zX E k n nn v1 (pc + 3) lo st) : zX E k n nn v pc lo (zi x :: zr a :: st) := z_putI (jj := 0) (Cn := RX2) (T := TX2) C tyX2_ok nmX2 G (by decide) rfl hin 0 rfl (by decide) rfl hlink rfl rfl (ty := .int) (by decide +kernel) rfl rfl d (fun v2 e2 => by rw [e2, ← e]; exact kk)
theorem gf_2_1 (C : zC E nn cc own Ts) {a idx : Nat} (G : zG E nn a 2 5) (hin : ∀ w ∈ u_ws RX2 TX2 5, w ∈ Ts) (hlink : Cond.fieldLink own idx "PremiumHours$Clock" "hour" "I" ∈ Ts) (d : decode cc pc = .ok (.getfield idx, 3)) (kk : zX E k n nn v (pc + 3) lo (zi (v a 1) :: st)) : zX E k n nn v pc lo (zr a :: st) := z_getI (Cn := RX2) (T := TX2) C G (by decide) rfl hin 1 rfl (by decide) rfl hlink rfl d kk
theorem pf_2_1 (C : zC E nn cc own Ts) {a idx : Nat} {x : Int} (G : zG E nn a 2 5) (hin : ∀ w ∈ u_ws RX2 TX2 5, w ∈ Ts) (hlink : Cond.fieldLink own idx "PremiumHours$Clock" "hour" "I" ∈ Ts) {v1 : zHp} (e : v1 = zst v a 1 x) (d : decode cc pc = .ok (.putfield idx, 3)) (kk : zX E k n nn v1 (pc + 3) lo st) : zX E k n nn v pc lo (zi x :: zr a :: st) := z_putI (jj := 1) (Cn := RX2) (T := TX2) C tyX2_ok nmX2 G (by decide) rfl hin 1 rfl (by decide) rfl hlink rfl rfl (ty := .int) (by decide +kernel) rfl rfl d (fun v2 e2 => by rw [e2, ← e]; exact kk)
theorem gf_2_2 (C : zC E nn cc own Ts) {a idx : Nat} (G : zG E nn a 2 5) (hin : ∀ w ∈ u_ws RX2 TX2 5, w ∈ Ts) (hlink : Cond.fieldLink own idx "PremiumHours$Clock" "sort" "I" ∈ Ts) (d : decode cc pc = .ok (.getfield idx, 3)) (kk : zX E k n nn v (pc + 3) lo (zi (v a 2) :: st)) : zX E k n nn v pc lo (zr a :: st) := z_getI (Cn := RX2) (T := TX2) C G (by decide) rfl hin 2 rfl (by decide) rfl hlink rfl d kk
theorem pf_2_2 (C : zC E nn cc own Ts) {a idx : Nat} {x : Int} (G : zG E nn a 2 5) (hin : ∀ w ∈ u_ws RX2 TX2 5, w ∈ Ts) (hlink : Cond.fieldLink own idx "PremiumHours$Clock" "sort" "I" ∈ Ts) {v1 : zHp} (e : v1 = zst v a 2 x) (d : decode cc pc = .ok (.putfield idx, 3)) (kk : zX E k n nn v1 (pc + 3) lo st) : zX E k n nn v pc lo (zi x :: zr a :: st) := z_putI (jj := 2) (Cn := RX2) (T := TX2) C tyX2_ok nmX2 G (by decide) rfl hin 2 rfl (by decide) rfl hlink rfl rfl (ty := .int) (by decide +kernel) rfl rfl d (fun v2 e2 => by rw [e2, ← e]; exact kk)
theorem gf_2_3 (C : zC E nn cc own Ts) {a idx : Nat} (G : zG E nn a 2 5) (hin : ∀ w ∈ u_ws RX2 TX2 5, w ∈ Ts) (hlink : Cond.fieldLink own idx "PremiumHours$Clock" "turn" "I" ∈ Ts) (d : decode cc pc = .ok (.getfield idx, 3)) (kk : zX E k n nn v (pc + 3) lo (zi (v a 3) :: st)) : zX E k n nn v pc lo (zr a :: st) := z_getI (Cn := RX2) (T := TX2) C G (by decide) rfl hin 3 rfl (by decide) rfl hlink rfl d kk
theorem pf_2_3 (C : zC E nn cc own Ts) {a idx : Nat} {x : Int} (G : zG E nn a 2 5) (hin : ∀ w ∈ u_ws RX2 TX2 5, w ∈ Ts) (hlink : Cond.fieldLink own idx "PremiumHours$Clock" "turn" "I" ∈ Ts) {v1 : zHp} (e : v1 = zst v a 3 x) (d : decode cc pc = .ok (.putfield idx, 3)) (kk : zX E k n nn v1 (pc + 3) lo st) : zX E k n nn v pc lo (zi x :: zr a :: st) := z_putI (jj := 3) (Cn := RX2) (T := TX2) C tyX2_ok nmX2 G (by decide) rfl hin 3 rfl (by decide) rfl hlink rfl rfl (ty := .int) (by decide +kernel) rfl rfl d (fun v2 e2 => by rw [e2, ← e]; exact kk)
theorem gf_2_4 (C : zC E nn cc own Ts) {a idx : Nat} (G : zG E nn a 2 5) (hin : ∀ w ∈ u_ws RX2 TX2 5, w ∈ Ts) (hlink : Cond.fieldLink own idx "PremiumHours$Clock" "shift" "I" ∈ Ts) (d : decode cc pc = .ok (.getfield idx, 3)) (kk : zX E k n nn v (pc + 3) lo (zi (v a 4) :: st)) : zX E k n nn v pc lo (zr a :: st) := z_getI (Cn := RX2) (T := TX2) C G (by decide) rfl hin 4 rfl (by decide) rfl hlink rfl d kk
theorem pf_2_4 (C : zC E nn cc own Ts) {a idx : Nat} {x : Int} (G : zG E nn a 2 5) (hin : ∀ w ∈ u_ws RX2 TX2 5, w ∈ Ts) (hlink : Cond.fieldLink own idx "PremiumHours$Clock" "shift" "I" ∈ Ts) {v1 : zHp} (e : v1 = zst v a 4 x) (d : decode cc pc = .ok (.putfield idx, 3)) (kk : zX E k n nn v1 (pc + 3) lo st) : zX E k n nn v pc lo (zi x :: zr a :: st) := z_putI (jj := 4) (Cn := RX2) (T := TX2) C tyX2_ok nmX2 G (by decide) rfl hin 4 rfl (by decide) rfl hlink rfl rfl (ty := .int) (by decide +kernel) rfl rfl d (fun v2 e2 => by rw [e2, ← e]; exact kk)
theorem gl_3_0 (C : zC E nn cc own Ts) {a idx t : Nat} (G : zG E nn a 3 5) (hin : ∀ w ∈ u_ws RX3 TX3 5, w ∈ Ts) (hlink : Cond.fieldLink own idx "PremiumHours$History" "workers" "[I" ∈ Ts) (hv : v a 0 = (t : Int)) (d : decode cc pc = .ok (.getfield idx, 3)) (kk : zX E k n nn v (pc + 3) lo (zr t :: st)) : zX E k n nn v pc lo (zr a :: st) := z_getR (Cn := RX3) (T := TX3) C G (by decide) rfl hin 0 rfl (by decide) rfl hlink rfl hv d kk
theorem vl_3_0 {a : Nat} (ho : zEo E = 0) (hv : zV 0 137 v) (G : zG E 137 a 3 5) : v a 0 = ((a + 1 : Nat) : Int) := hv.2 a (by have := G.2.1; omega) (by have := G.2.2; omega) 0 (a + 1) (by rw [G.1]; rfl)
theorem lk_3_0 {a : Nat} (ho : zEo E = 0) (G : zG E 137 a 3 5) : zG E 137 (a + 1) 20 16 := by
  have h1 := zK_lt a (by rw [G.1]; decide)
  have h2 := List.all_eq_true.mp (show (List.range 161).all (fun a => !(zK a == (3, 5)) || (zK (a + 1) == (20, 16) && decide (a + 1 < 137))) = true by decide +kernel) a (List.mem_range.mpr h1)
  rw [G.1] at h2
  simp at h2
  have h3 := G.2.1
  exact ⟨h2.1, by omega, by omega⟩
theorem gl_3_1 (C : zC E nn cc own Ts) {a idx t : Nat} (G : zG E nn a 3 5) (hin : ∀ w ∈ u_ws RX3 TX3 5, w ∈ Ts) (hlink : Cond.fieldLink own idx "PremiumHours$History" "moments" "[I" ∈ Ts) (hv : v a 1 = (t : Int)) (d : decode cc pc = .ok (.getfield idx, 3)) (kk : zX E k n nn v (pc + 3) lo (zr t :: st)) : zX E k n nn v pc lo (zr a :: st) := z_getR (Cn := RX3) (T := TX3) C G (by decide) rfl hin 1 rfl (by decide) rfl hlink rfl hv d kk
theorem vl_3_1 {a : Nat} (ho : zEo E = 0) (hv : zV 0 137 v) (G : zG E 137 a 3 5) : v a 1 = ((a + 2 : Nat) : Int) := hv.2 a (by have := G.2.1; omega) (by have := G.2.2; omega) 1 (a + 2) (by rw [G.1]; rfl)
theorem lk_3_1 {a : Nat} (ho : zEo E = 0) (G : zG E 137 a 3 5) : zG E 137 (a + 2) 20 16 := by
  have h1 := zK_lt a (by rw [G.1]; decide)
  have h2 := List.all_eq_true.mp (show (List.range 161).all (fun a => !(zK a == (3, 5)) || (zK (a + 2) == (20, 16) && decide (a + 2 < 137))) = true by decide +kernel) a (List.mem_range.mpr h1)
  rw [G.1] at h2
  simp at h2
  have h3 := G.2.1
  exact ⟨h2.1, by omega, by omega⟩
theorem gl_3_2 (C : zC E nn cc own Ts) {a idx t : Nat} (G : zG E nn a 3 5) (hin : ∀ w ∈ u_ws RX3 TX3 5, w ∈ Ts) (hlink : Cond.fieldLink own idx "PremiumHours$History" "kinds" "[I" ∈ Ts) (hv : v a 2 = (t : Int)) (d : decode cc pc = .ok (.getfield idx, 3)) (kk : zX E k n nn v (pc + 3) lo (zr t :: st)) : zX E k n nn v pc lo (zr a :: st) := z_getR (Cn := RX3) (T := TX3) C G (by decide) rfl hin 2 rfl (by decide) rfl hlink rfl hv d kk
theorem vl_3_2 {a : Nat} (ho : zEo E = 0) (hv : zV 0 137 v) (G : zG E 137 a 3 5) : v a 2 = ((a + 3 : Nat) : Int) := hv.2 a (by have := G.2.1; omega) (by have := G.2.2; omega) 2 (a + 3) (by rw [G.1]; rfl)
theorem lk_3_2 {a : Nat} (ho : zEo E = 0) (G : zG E 137 a 3 5) : zG E 137 (a + 3) 20 16 := by
  have h1 := zK_lt a (by rw [G.1]; decide)
  have h2 := List.all_eq_true.mp (show (List.range 161).all (fun a => !(zK a == (3, 5)) || (zK (a + 3) == (20, 16) && decide (a + 3 < 137))) = true by decide +kernel) a (List.mem_range.mpr h1)
  rw [G.1] at h2
  simp at h2
  have h3 := G.2.1
  exact ⟨h2.1, by omega, by omega⟩
theorem gl_3_3 (C : zC E nn cc own Ts) {a idx t : Nat} (G : zG E nn a 3 5) (hin : ∀ w ∈ u_ws RX3 TX3 5, w ∈ Ts) (hlink : Cond.fieldLink own idx "PremiumHours$History" "came" "[Z" ∈ Ts) (hv : v a 3 = (t : Int)) (d : decode cc pc = .ok (.getfield idx, 3)) (kk : zX E k n nn v (pc + 3) lo (zr t :: st)) : zX E k n nn v pc lo (zr a :: st) := z_getR (Cn := RX3) (T := TX3) C G (by decide) rfl hin 3 rfl (by decide) rfl hlink rfl hv d kk
theorem vl_3_3 {a : Nat} (ho : zEo E = 0) (hv : zV 0 137 v) (G : zG E 137 a 3 5) : v a 3 = ((a + 4 : Nat) : Int) := hv.2 a (by have := G.2.1; omega) (by have := G.2.2; omega) 3 (a + 4) (by rw [G.1]; rfl)
theorem lk_3_3 {a : Nat} (ho : zEo E = 0) (G : zG E 137 a 3 5) : zG E 137 (a + 4) 21 16 := by
  have h1 := zK_lt a (by rw [G.1]; decide)
  have h2 := List.all_eq_true.mp (show (List.range 161).all (fun a => !(zK a == (3, 5)) || (zK (a + 4) == (21, 16) && decide (a + 4 < 137))) = true by decide +kernel) a (List.mem_range.mpr h1)
  rw [G.1] at h2
  simp at h2
  have h3 := G.2.1
  exact ⟨h2.1, by omega, by omega⟩
theorem gf_3_4 (C : zC E nn cc own Ts) {a idx : Nat} (G : zG E nn a 3 5) (hin : ∀ w ∈ u_ws RX3 TX3 5, w ∈ Ts) (hlink : Cond.fieldLink own idx "PremiumHours$History" "size" "I" ∈ Ts) (d : decode cc pc = .ok (.getfield idx, 3)) (kk : zX E k n nn v (pc + 3) lo (zi (v a 4) :: st)) : zX E k n nn v pc lo (zr a :: st) := z_getI (Cn := RX3) (T := TX3) C G (by decide) rfl hin 4 rfl (by decide) rfl hlink rfl d kk
theorem pf_3_4 (C : zC E nn cc own Ts) {a idx : Nat} {x : Int} (G : zG E nn a 3 5) (hin : ∀ w ∈ u_ws RX3 TX3 5, w ∈ Ts) (hlink : Cond.fieldLink own idx "PremiumHours$History" "size" "I" ∈ Ts) {v1 : zHp} (e : v1 = zst v a 4 x) (d : decode cc pc = .ok (.putfield idx, 3)) (kk : zX E k n nn v1 (pc + 3) lo st) : zX E k n nn v pc lo (zi x :: zr a :: st) := z_putI (jj := 4) (Cn := RX3) (T := TX3) C tyX3_ok nmX3 G (by decide) rfl hin 4 rfl (by decide) rfl hlink rfl rfl (ty := .int) (by decide +kernel) rfl rfl d (fun v2 e2 => by rw [e2, ← e]; exact kk)
theorem gl_4_0 (C : zC E nn cc own Ts) {a idx t : Nat} (G : zG E nn a 4 3) (hin : ∀ w ∈ u_ws RX4 TX4 3, w ∈ Ts) (hlink : Cond.fieldLink own idx "PremiumHours$Pieces" "begins" "[I" ∈ Ts) (hv : v a 0 = (t : Int)) (d : decode cc pc = .ok (.getfield idx, 3)) (kk : zX E k n nn v (pc + 3) lo (zr t :: st)) : zX E k n nn v pc lo (zr a :: st) := z_getR (Cn := RX4) (T := TX4) C G (by decide) rfl hin 0 rfl (by decide) rfl hlink rfl hv d kk
theorem vl_4_0 {a : Nat} (ho : zEo E = 0) (hv : zV 0 137 v) (G : zG E 137 a 4 3) : v a 0 = ((a + 1 : Nat) : Int) := hv.2 a (by have := G.2.1; omega) (by have := G.2.2; omega) 0 (a + 1) (by rw [G.1]; rfl)
theorem lk_4_0 {a : Nat} (ho : zEo E = 0) (G : zG E 137 a 4 3) : zG E 137 (a + 1) 20 60 := by
  have h1 := zK_lt a (by rw [G.1]; decide)
  have h2 := List.all_eq_true.mp (show (List.range 161).all (fun a => !(zK a == (4, 3)) || (zK (a + 1) == (20, 60) && decide (a + 1 < 137))) = true by decide +kernel) a (List.mem_range.mpr h1)
  rw [G.1] at h2
  simp at h2
  have h3 := G.2.1
  exact ⟨h2.1, by omega, by omega⟩
theorem gl_4_1 (C : zC E nn cc own Ts) {a idx t : Nat} (G : zG E nn a 4 3) (hin : ∀ w ∈ u_ws RX4 TX4 3, w ∈ Ts) (hlink : Cond.fieldLink own idx "PremiumHours$Pieces" "ends" "[I" ∈ Ts) (hv : v a 1 = (t : Int)) (d : decode cc pc = .ok (.getfield idx, 3)) (kk : zX E k n nn v (pc + 3) lo (zr t :: st)) : zX E k n nn v pc lo (zr a :: st) := z_getR (Cn := RX4) (T := TX4) C G (by decide) rfl hin 1 rfl (by decide) rfl hlink rfl hv d kk
theorem vl_4_1 {a : Nat} (ho : zEo E = 0) (hv : zV 0 137 v) (G : zG E 137 a 4 3) : v a 1 = ((a + 2 : Nat) : Int) := hv.2 a (by have := G.2.1; omega) (by have := G.2.2; omega) 1 (a + 2) (by rw [G.1]; rfl)
theorem lk_4_1 {a : Nat} (ho : zEo E = 0) (G : zG E 137 a 4 3) : zG E 137 (a + 2) 20 60 := by
  have h1 := zK_lt a (by rw [G.1]; decide)
  have h2 := List.all_eq_true.mp (show (List.range 161).all (fun a => !(zK a == (4, 3)) || (zK (a + 2) == (20, 60) && decide (a + 2 < 137))) = true by decide +kernel) a (List.mem_range.mpr h1)
  rw [G.1] at h2
  simp at h2
  have h3 := G.2.1
  exact ⟨h2.1, by omega, by omega⟩
theorem gf_4_2 (C : zC E nn cc own Ts) {a idx : Nat} (G : zG E nn a 4 3) (hin : ∀ w ∈ u_ws RX4 TX4 3, w ∈ Ts) (hlink : Cond.fieldLink own idx "PremiumHours$Pieces" "size" "I" ∈ Ts) (d : decode cc pc = .ok (.getfield idx, 3)) (kk : zX E k n nn v (pc + 3) lo (zi (v a 2) :: st)) : zX E k n nn v pc lo (zr a :: st) := z_getI (Cn := RX4) (T := TX4) C G (by decide) rfl hin 2 rfl (by decide) rfl hlink rfl d kk
theorem pf_4_2 (C : zC E nn cc own Ts) {a idx : Nat} {x : Int} (G : zG E nn a 4 3) (hin : ∀ w ∈ u_ws RX4 TX4 3, w ∈ Ts) (hlink : Cond.fieldLink own idx "PremiumHours$Pieces" "size" "I" ∈ Ts) {v1 : zHp} (e : v1 = zst v a 2 x) (d : decode cc pc = .ok (.putfield idx, 3)) (kk : zX E k n nn v1 (pc + 3) lo st) : zX E k n nn v pc lo (zi x :: zr a :: st) := z_putI (jj := 2) (Cn := RX4) (T := TX4) C tyX4_ok nmX4 G (by decide) rfl hin 2 rfl (by decide) rfl hlink rfl rfl (ty := .int) (by decide +kernel) rfl rfl d (fun v2 e2 => by rw [e2, ← e]; exact kk)
theorem gf_5_0 (C : zC E nn cc own Ts) {a idx : Nat} (G : zG E nn a 5 5) (hin : ∀ w ∈ u_ws RX5 TX5 5, w ∈ Ts) (hlink : Cond.fieldLink own idx "PremiumHours$Premium" "kind" "I" ∈ Ts) (d : decode cc pc = .ok (.getfield idx, 3)) (kk : zX E k n nn v (pc + 3) lo (zi (v a 0) :: st)) : zX E k n nn v pc lo (zr a :: st) := z_getI (Cn := RX5) (T := TX5) C G (by decide) rfl hin 0 rfl (by decide) rfl hlink rfl d kk
theorem pf_5_0 (C : zC E nn cc own Ts) {a idx : Nat} {x : Int} (G : zG E nn a 5 5) (hin : ∀ w ∈ u_ws RX5 TX5 5, w ∈ Ts) (hlink : Cond.fieldLink own idx "PremiumHours$Premium" "kind" "I" ∈ Ts) {v1 : zHp} (e : v1 = zst v a 0 x) (d : decode cc pc = .ok (.putfield idx, 3)) (kk : zX E k n nn v1 (pc + 3) lo st) : zX E k n nn v pc lo (zi x :: zr a :: st) := z_putI (jj := 0) (Cn := RX5) (T := TX5) C tyX5_ok nmX5 G (by decide) rfl hin 0 rfl (by decide) rfl hlink rfl rfl (ty := .int) (by decide +kernel) rfl rfl d (fun v2 e2 => by rw [e2, ← e]; exact kk)
theorem gf_5_1 (C : zC E nn cc own Ts) {a idx : Nat} (G : zG E nn a 5 5) (hin : ∀ w ∈ u_ws RX5 TX5 5, w ∈ Ts) (hlink : Cond.fieldLink own idx "PremiumHours$Premium" "hundredths" "I" ∈ Ts) (d : decode cc pc = .ok (.getfield idx, 3)) (kk : zX E k n nn v (pc + 3) lo (zi (v a 1) :: st)) : zX E k n nn v pc lo (zr a :: st) := z_getI (Cn := RX5) (T := TX5) C G (by decide) rfl hin 1 rfl (by decide) rfl hlink rfl d kk
theorem pf_5_1 (C : zC E nn cc own Ts) {a idx : Nat} {x : Int} (G : zG E nn a 5 5) (hin : ∀ w ∈ u_ws RX5 TX5 5, w ∈ Ts) (hlink : Cond.fieldLink own idx "PremiumHours$Premium" "hundredths" "I" ∈ Ts) {v1 : zHp} (e : v1 = zst v a 1 x) (d : decode cc pc = .ok (.putfield idx, 3)) (kk : zX E k n nn v1 (pc + 3) lo st) : zX E k n nn v pc lo (zi x :: zr a :: st) := z_putI (jj := 1) (Cn := RX5) (T := TX5) C tyX5_ok nmX5 G (by decide) rfl hin 1 rfl (by decide) rfl hlink rfl rfl (ty := .int) (by decide +kernel) rfl rfl d (fun v2 e2 => by rw [e2, ← e]; exact kk)
theorem gf_5_2 (C : zC E nn cc own Ts) {a idx : Nat} (G : zG E nn a 5 5) (hin : ∀ w ∈ u_ws RX5 TX5 5, w ∈ Ts) (hlink : Cond.fieldLink own idx "PremiumHours$Premium" "counts" "Z" ∈ Ts) (d : decode cc pc = .ok (.getfield idx, 3)) (kk : zX E k n nn v (pc + 3) lo (zi (v a 2) :: st)) : zX E k n nn v pc lo (zr a :: st) := z_getI (Cn := RX5) (T := TX5) C G (by decide) rfl hin 2 rfl (by decide) rfl hlink rfl d kk
theorem pf_5_2 (C : zC E nn cc own Ts) {a idx : Nat} {x : Int} (G : zG E nn a 5 5) (hin : ∀ w ∈ u_ws RX5 TX5 5, w ∈ Ts) (hlink : Cond.fieldLink own idx "PremiumHours$Premium" "counts" "Z" ∈ Ts) (hx : x = 0 ∨ x = 1) {v1 : zHp} (e : v1 = zst v a 2 x) (d : decode cc pc = .ok (.putfield idx, 3)) (kk : zX E k n nn v1 (pc + 3) lo st) : zX E k n nn v pc lo (zi x :: zr a :: st) := z_putI (jj := 2) (Cn := RX5) (T := TX5) C tyX5_ok nmX5 G (by decide) rfl hin 2 rfl (by decide) rfl hlink rfl rfl (ty := .boolean) (by decide +kernel) (zbool_n hx) (zbool_f hx) d (fun v2 e2 => by rw [e2, ← e]; exact kk)
theorem gf_5_3 (C : zC E nn cc own Ts) {a idx : Nat} (G : zG E nn a 5 5) (hin : ∀ w ∈ u_ws RX5 TX5 5, w ∈ Ts) (hlink : Cond.fieldLink own idx "PremiumHours$Premium" "first" "I" ∈ Ts) (d : decode cc pc = .ok (.getfield idx, 3)) (kk : zX E k n nn v (pc + 3) lo (zi (v a 3) :: st)) : zX E k n nn v pc lo (zr a :: st) := z_getI (Cn := RX5) (T := TX5) C G (by decide) rfl hin 3 rfl (by decide) rfl hlink rfl d kk
theorem pf_5_3 (C : zC E nn cc own Ts) {a idx : Nat} {x : Int} (G : zG E nn a 5 5) (hin : ∀ w ∈ u_ws RX5 TX5 5, w ∈ Ts) (hlink : Cond.fieldLink own idx "PremiumHours$Premium" "first" "I" ∈ Ts) {v1 : zHp} (e : v1 = zst v a 3 x) (d : decode cc pc = .ok (.putfield idx, 3)) (kk : zX E k n nn v1 (pc + 3) lo st) : zX E k n nn v pc lo (zi x :: zr a :: st) := z_putI (jj := 3) (Cn := RX5) (T := TX5) C tyX5_ok nmX5 G (by decide) rfl hin 3 rfl (by decide) rfl hlink rfl rfl (ty := .int) (by decide +kernel) rfl rfl d (fun v2 e2 => by rw [e2, ← e]; exact kk)
theorem gf_5_4 (C : zC E nn cc own Ts) {a idx : Nat} (G : zG E nn a 5 5) (hin : ∀ w ∈ u_ws RX5 TX5 5, w ∈ Ts) (hlink : Cond.fieldLink own idx "PremiumHours$Premium" "second" "I" ∈ Ts) (d : decode cc pc = .ok (.getfield idx, 3)) (kk : zX E k n nn v (pc + 3) lo (zi (v a 4) :: st)) : zX E k n nn v pc lo (zr a :: st) := z_getI (Cn := RX5) (T := TX5) C G (by decide) rfl hin 4 rfl (by decide) rfl hlink rfl d kk
theorem pf_5_4 (C : zC E nn cc own Ts) {a idx : Nat} {x : Int} (G : zG E nn a 5 5) (hin : ∀ w ∈ u_ws RX5 TX5 5, w ∈ Ts) (hlink : Cond.fieldLink own idx "PremiumHours$Premium" "second" "I" ∈ Ts) {v1 : zHp} (e : v1 = zst v a 4 x) (d : decode cc pc = .ok (.putfield idx, 3)) (kk : zX E k n nn v1 (pc + 3) lo st) : zX E k n nn v pc lo (zi x :: zr a :: st) := z_putI (jj := 4) (Cn := RX5) (T := TX5) C tyX5_ok nmX5 G (by decide) rfl hin 4 rfl (by decide) rfl hlink rfl rfl (ty := .int) (by decide +kernel) rfl rfl d (fun v2 e2 => by rw [e2, ← e]; exact kk)
theorem gf_6_0 (C : zC E nn cc own Ts) {a idx : Nat} (G : zG E nn a 6 2) (hin : ∀ w ∈ u_ws RX6 TX6 2, w ∈ Ts) (hlink : Cond.fieldLink own idx "PremiumHours$RuleReader" "fault" "I" ∈ Ts) (d : decode cc pc = .ok (.getfield idx, 3)) (kk : zX E k n nn v (pc + 3) lo (zi (v a 0) :: st)) : zX E k n nn v pc lo (zr a :: st) := z_getI (Cn := RX6) (T := TX6) C G (by decide) rfl hin 0 rfl (by decide) rfl hlink rfl d kk
theorem pf_6_0 (C : zC E nn cc own Ts) {a idx : Nat} {x : Int} (G : zG E nn a 6 2) (hin : ∀ w ∈ u_ws RX6 TX6 2, w ∈ Ts) (hlink : Cond.fieldLink own idx "PremiumHours$RuleReader" "fault" "I" ∈ Ts) {v1 : zHp} (e : v1 = zst v a 0 x) (d : decode cc pc = .ok (.putfield idx, 3)) (kk : zX E k n nn v1 (pc + 3) lo st) : zX E k n nn v pc lo (zi x :: zr a :: st) := z_putI (jj := 0) (Cn := RX6) (T := TX6) C tyX6_ok nmX6 G (by decide) rfl hin 0 rfl (by decide) rfl hlink rfl rfl (ty := .int) (by decide +kernel) rfl rfl d (fun v2 e2 => by rw [e2, ← e]; exact kk)
theorem gf_6_1 (C : zC E nn cc own Ts) {a idx : Nat} (G : zG E nn a 6 2) (hin : ∀ w ∈ u_ws RX6 TX6 2, w ∈ Ts) (hlink : Cond.fieldLink own idx "PremiumHours$RuleReader" "told" "I" ∈ Ts) (d : decode cc pc = .ok (.getfield idx, 3)) (kk : zX E k n nn v (pc + 3) lo (zi (v a 1) :: st)) : zX E k n nn v pc lo (zr a :: st) := z_getI (Cn := RX6) (T := TX6) C G (by decide) rfl hin 1 rfl (by decide) rfl hlink rfl d kk
theorem pf_6_1 (C : zC E nn cc own Ts) {a idx : Nat} {x : Int} (G : zG E nn a 6 2) (hin : ∀ w ∈ u_ws RX6 TX6 2, w ∈ Ts) (hlink : Cond.fieldLink own idx "PremiumHours$RuleReader" "told" "I" ∈ Ts) {v1 : zHp} (e : v1 = zst v a 1 x) (d : decode cc pc = .ok (.putfield idx, 3)) (kk : zX E k n nn v1 (pc + 3) lo st) : zX E k n nn v pc lo (zi x :: zr a :: st) := z_putI (jj := 1) (Cn := RX6) (T := TX6) C tyX6_ok nmX6 G (by decide) rfl hin 1 rfl (by decide) rfl hlink rfl rfl (ty := .int) (by decide +kernel) rfl rfl d (fun v2 e2 => by rw [e2, ← e]; exact kk)
theorem gl_7_0 (C : zC E nn cc own Ts) {a idx t : Nat} (G : zG E nn a 7 10) (hin : ∀ w ∈ u_ws RX7 TX7 10, w ∈ Ts) (hlink : Cond.fieldLink own idx "PremiumHours$Rules" "clock" "LPremiumHours$Clock;" ∈ Ts) (hv : v a 0 = (t : Int)) (d : decode cc pc = .ok (.getfield idx, 3)) (kk : zX E k n nn v (pc + 3) lo (zr t :: st)) : zX E k n nn v pc lo (zr a :: st) := z_getR (Cn := RX7) (T := TX7) C G (by decide) rfl hin 0 rfl (by decide) rfl hlink rfl hv d kk
theorem vl_7_0 {a : Nat} (ho : zEo E = 0) (hv : zV 0 137 v) (G : zG E 137 a 7 10) : v a 0 = ((a + 1 : Nat) : Int) := hv.2 a (by have := G.2.1; omega) (by have := G.2.2; omega) 0 (a + 1) (by rw [G.1]; rfl)
theorem lk_7_0 {a : Nat} (ho : zEo E = 0) (G : zG E 137 a 7 10) : zG E 137 (a + 1) 2 5 := by
  have h1 := zK_lt a (by rw [G.1]; decide)
  have h2 := List.all_eq_true.mp (show (List.range 161).all (fun a => !(zK a == (7, 10)) || (zK (a + 1) == (2, 5) && decide (a + 1 < 137))) = true by decide +kernel) a (List.mem_range.mpr h1)
  rw [G.1] at h2
  simp at h2
  have h3 := G.2.1
  exact ⟨h2.1, by omega, by omega⟩
theorem gl_7_1 (C : zC E nn cc own Ts) {a idx t : Nat} (G : zG E nn a 7 10) (hin : ∀ w ∈ u_ws RX7 TX7 10, w ∈ Ts) (hlink : Cond.fieldLink own idx "PremiumHours$Rules" "premiums" "[LPremiumHours$Premium;" ∈ Ts) (hv : v a 1 = (t : Int)) (d : decode cc pc = .ok (.getfield idx, 3)) (kk : zX E k n nn v (pc + 3) lo (zr t :: st)) : zX E k n nn v pc lo (zr a :: st) := z_getR (Cn := RX7) (T := TX7) C G (by decide) rfl hin 1 rfl (by decide) rfl hlink rfl hv d kk
theorem vl_7_1 {a : Nat} (ho : zEo E = 0) (hv : zV 0 137 v) (G : zG E 137 a 7 10) : v a 1 = ((a + 2 : Nat) : Int) := hv.2 a (by have := G.2.1; omega) (by have := G.2.2; omega) 1 (a + 2) (by rw [G.1]; rfl)
theorem lk_7_1 {a : Nat} (ho : zEo E = 0) (G : zG E 137 a 7 10) : zG E 137 (a + 2) 24 8 := by
  have h1 := zK_lt a (by rw [G.1]; decide)
  have h2 := List.all_eq_true.mp (show (List.range 161).all (fun a => !(zK a == (7, 10)) || (zK (a + 2) == (24, 8) && decide (a + 2 < 137))) = true by decide +kernel) a (List.mem_range.mpr h1)
  rw [G.1] at h2
  simp at h2
  have h3 := G.2.1
  exact ⟨h2.1, by omega, by omega⟩
theorem gf_7_2 (C : zC E nn cc own Ts) {a idx : Nat} (G : zG E nn a 7 10) (hin : ∀ w ∈ u_ws RX7 TX7 10, w ∈ Ts) (hlink : Cond.fieldLink own idx "PremiumHours$Rules" "premiumCount" "I" ∈ Ts) (d : decode cc pc = .ok (.getfield idx, 3)) (kk : zX E k n nn v (pc + 3) lo (zi (v a 2) :: st)) : zX E k n nn v pc lo (zr a :: st) := z_getI (Cn := RX7) (T := TX7) C G (by decide) rfl hin 2 rfl (by decide) rfl hlink rfl d kk
theorem pf_7_2 (C : zC E nn cc own Ts) {a idx : Nat} {x : Int} (G : zG E nn a 7 10) (hin : ∀ w ∈ u_ws RX7 TX7 10, w ∈ Ts) (hlink : Cond.fieldLink own idx "PremiumHours$Rules" "premiumCount" "I" ∈ Ts) {v1 : zHp} (e : v1 = zst v a 2 x) (d : decode cc pc = .ok (.putfield idx, 3)) (kk : zX E k n nn v1 (pc + 3) lo st) : zX E k n nn v pc lo (zi x :: zr a :: st) := z_putI (jj := 2) (Cn := RX7) (T := TX7) C tyX7_ok nmX7 G (by decide) rfl hin 2 rfl (by decide) rfl hlink rfl rfl (ty := .int) (by decide +kernel) rfl rfl d (fun v2 e2 => by rw [e2, ← e]; exact kk)
theorem gl_7_3 (C : zC E nn cc own Ts) {a idx t : Nat} (G : zG E nn a 7 10) (hin : ∀ w ∈ u_ws RX7 TX7 10, w ∈ Ts) (hlink : Cond.fieldLink own idx "PremiumHours$Rules" "holidays" "[I" ∈ Ts) (hv : v a 3 = (t : Int)) (d : decode cc pc = .ok (.getfield idx, 3)) (kk : zX E k n nn v (pc + 3) lo (zr t :: st)) : zX E k n nn v pc lo (zr a :: st) := z_getR (Cn := RX7) (T := TX7) C G (by decide) rfl hin 3 rfl (by decide) rfl hlink rfl hv d kk
theorem vl_7_3 {a : Nat} (ho : zEo E = 0) (hv : zV 0 137 v) (G : zG E 137 a 7 10) : v a 3 = ((a + 3 : Nat) : Int) := hv.2 a (by have := G.2.1; omega) (by have := G.2.2; omega) 3 (a + 3) (by rw [G.1]; rfl)
theorem lk_7_3 {a : Nat} (ho : zEo E = 0) (G : zG E 137 a 7 10) : zG E 137 (a + 3) 20 4 := by
  have h1 := zK_lt a (by rw [G.1]; decide)
  have h2 := List.all_eq_true.mp (show (List.range 161).all (fun a => !(zK a == (7, 10)) || (zK (a + 3) == (20, 4) && decide (a + 3 < 137))) = true by decide +kernel) a (List.mem_range.mpr h1)
  rw [G.1] at h2
  simp at h2
  have h3 := G.2.1
  exact ⟨h2.1, by omega, by omega⟩
theorem gf_7_4 (C : zC E nn cc own Ts) {a idx : Nat} (G : zG E nn a 7 10) (hin : ∀ w ∈ u_ws RX7 TX7 10, w ∈ Ts) (hlink : Cond.fieldLink own idx "PremiumHours$Rules" "holidayCount" "I" ∈ Ts) (d : decode cc pc = .ok (.getfield idx, 3)) (kk : zX E k n nn v (pc + 3) lo (zi (v a 4) :: st)) : zX E k n nn v pc lo (zr a :: st) := z_getI (Cn := RX7) (T := TX7) C G (by decide) rfl hin 4 rfl (by decide) rfl hlink rfl d kk
theorem pf_7_4 (C : zC E nn cc own Ts) {a idx : Nat} {x : Int} (G : zG E nn a 7 10) (hin : ∀ w ∈ u_ws RX7 TX7 10, w ∈ Ts) (hlink : Cond.fieldLink own idx "PremiumHours$Rules" "holidayCount" "I" ∈ Ts) {v1 : zHp} (e : v1 = zst v a 4 x) (d : decode cc pc = .ok (.putfield idx, 3)) (kk : zX E k n nn v1 (pc + 3) lo st) : zX E k n nn v pc lo (zi x :: zr a :: st) := z_putI (jj := 4) (Cn := RX7) (T := TX7) C tyX7_ok nmX7 G (by decide) rfl hin 4 rfl (by decide) rfl hlink rfl rfl (ty := .int) (by decide +kernel) rfl rfl d (fun v2 e2 => by rw [e2, ← e]; exact kk)
theorem gf_7_5 (C : zC E nn cc own Ts) {a idx : Nat} (G : zG E nn a 7 10) (hin : ∀ w ∈ u_ws RX7 TX7 10, w ∈ Ts) (hlink : Cond.fieldLink own idx "PremiumHours$Rules" "round" "I" ∈ Ts) (d : decode cc pc = .ok (.getfield idx, 3)) (kk : zX E k n nn v (pc + 3) lo (zi (v a 5) :: st)) : zX E k n nn v pc lo (zr a :: st) := z_getI (Cn := RX7) (T := TX7) C G (by decide) rfl hin 5 rfl (by decide) rfl hlink rfl d kk
theorem pf_7_5 (C : zC E nn cc own Ts) {a idx : Nat} {x : Int} (G : zG E nn a 7 10) (hin : ∀ w ∈ u_ws RX7 TX7 10, w ∈ Ts) (hlink : Cond.fieldLink own idx "PremiumHours$Rules" "round" "I" ∈ Ts) {v1 : zHp} (e : v1 = zst v a 5 x) (d : decode cc pc = .ok (.putfield idx, 3)) (kk : zX E k n nn v1 (pc + 3) lo st) : zX E k n nn v pc lo (zi x :: zr a :: st) := z_putI (jj := 5) (Cn := RX7) (T := TX7) C tyX7_ok nmX7 G (by decide) rfl hin 5 rfl (by decide) rfl hlink rfl rfl (ty := .int) (by decide +kernel) rfl rfl d (fun v2 e2 => by rw [e2, ← e]; exact kk)
theorem gf_7_6 (C : zC E nn cc own Ts) {a idx : Nat} (G : zG E nn a 7 10) (hin : ∀ w ∈ u_ws RX7 TX7 10, w ∈ Ts) (hlink : Cond.fieldLink own idx "PremiumHours$Rules" "mealAfter" "I" ∈ Ts) (d : decode cc pc = .ok (.getfield idx, 3)) (kk : zX E k n nn v (pc + 3) lo (zi (v a 6) :: st)) : zX E k n nn v pc lo (zr a :: st) := z_getI (Cn := RX7) (T := TX7) C G (by decide) rfl hin 6 rfl (by decide) rfl hlink rfl d kk
theorem pf_7_6 (C : zC E nn cc own Ts) {a idx : Nat} {x : Int} (G : zG E nn a 7 10) (hin : ∀ w ∈ u_ws RX7 TX7 10, w ∈ Ts) (hlink : Cond.fieldLink own idx "PremiumHours$Rules" "mealAfter" "I" ∈ Ts) {v1 : zHp} (e : v1 = zst v a 6 x) (d : decode cc pc = .ok (.putfield idx, 3)) (kk : zX E k n nn v1 (pc + 3) lo st) : zX E k n nn v pc lo (zi x :: zr a :: st) := z_putI (jj := 6) (Cn := RX7) (T := TX7) C tyX7_ok nmX7 G (by decide) rfl hin 6 rfl (by decide) rfl hlink rfl rfl (ty := .int) (by decide +kernel) rfl rfl d (fun v2 e2 => by rw [e2, ← e]; exact kk)
theorem gf_7_7 (C : zC E nn cc own Ts) {a idx : Nat} (G : zG E nn a 7 10) (hin : ∀ w ∈ u_ws RX7 TX7 10, w ∈ Ts) (hlink : Cond.fieldLink own idx "PremiumHours$Rules" "mealLength" "I" ∈ Ts) (d : decode cc pc = .ok (.getfield idx, 3)) (kk : zX E k n nn v (pc + 3) lo (zi (v a 7) :: st)) : zX E k n nn v pc lo (zr a :: st) := z_getI (Cn := RX7) (T := TX7) C G (by decide) rfl hin 7 rfl (by decide) rfl hlink rfl d kk
theorem pf_7_7 (C : zC E nn cc own Ts) {a idx : Nat} {x : Int} (G : zG E nn a 7 10) (hin : ∀ w ∈ u_ws RX7 TX7 10, w ∈ Ts) (hlink : Cond.fieldLink own idx "PremiumHours$Rules" "mealLength" "I" ∈ Ts) {v1 : zHp} (e : v1 = zst v a 7 x) (d : decode cc pc = .ok (.putfield idx, 3)) (kk : zX E k n nn v1 (pc + 3) lo st) : zX E k n nn v pc lo (zi x :: zr a :: st) := z_putI (jj := 7) (Cn := RX7) (T := TX7) C tyX7_ok nmX7 G (by decide) rfl hin 7 rfl (by decide) rfl hlink rfl rfl (ty := .int) (by decide +kernel) rfl rfl d (fun v2 e2 => by rw [e2, ← e]; exact kk)
theorem gf_7_8 (C : zC E nn cc own Ts) {a idx : Nat} (G : zG E nn a 7 10) (hin : ∀ w ∈ u_ws RX7 TX7 10, w ∈ Ts) (hlink : Cond.fieldLink own idx "PremiumHours$Rules" "longest" "I" ∈ Ts) (d : decode cc pc = .ok (.getfield idx, 3)) (kk : zX E k n nn v (pc + 3) lo (zi (v a 8) :: st)) : zX E k n nn v pc lo (zr a :: st) := z_getI (Cn := RX7) (T := TX7) C G (by decide) rfl hin 8 rfl (by decide) rfl hlink rfl d kk
theorem pf_7_8 (C : zC E nn cc own Ts) {a idx : Nat} {x : Int} (G : zG E nn a 7 10) (hin : ∀ w ∈ u_ws RX7 TX7 10, w ∈ Ts) (hlink : Cond.fieldLink own idx "PremiumHours$Rules" "longest" "I" ∈ Ts) {v1 : zHp} (e : v1 = zst v a 8 x) (d : decode cc pc = .ok (.putfield idx, 3)) (kk : zX E k n nn v1 (pc + 3) lo st) : zX E k n nn v pc lo (zi x :: zr a :: st) := z_putI (jj := 8) (Cn := RX7) (T := TX7) C tyX7_ok nmX7 G (by decide) rfl hin 8 rfl (by decide) rfl hlink rfl rfl (ty := .int) (by decide +kernel) rfl rfl d (fun v2 e2 => by rw [e2, ← e]; exact kk)
theorem gf_7_9 (C : zC E nn cc own Ts) {a idx : Nat} (G : zG E nn a 7 10) (hin : ∀ w ∈ u_ws RX7 TX7 10, w ∈ Ts) (hlink : Cond.fieldLink own idx "PremiumHours$Rules" "rate" "I" ∈ Ts) (d : decode cc pc = .ok (.getfield idx, 3)) (kk : zX E k n nn v (pc + 3) lo (zi (v a 9) :: st)) : zX E k n nn v pc lo (zr a :: st) := z_getI (Cn := RX7) (T := TX7) C G (by decide) rfl hin 9 rfl (by decide) rfl hlink rfl d kk
theorem pf_7_9 (C : zC E nn cc own Ts) {a idx : Nat} {x : Int} (G : zG E nn a 7 10) (hin : ∀ w ∈ u_ws RX7 TX7 10, w ∈ Ts) (hlink : Cond.fieldLink own idx "PremiumHours$Rules" "rate" "I" ∈ Ts) {v1 : zHp} (e : v1 = zst v a 9 x) (d : decode cc pc = .ok (.putfield idx, 3)) (kk : zX E k n nn v1 (pc + 3) lo st) : zX E k n nn v pc lo (zi x :: zr a :: st) := z_putI (jj := 9) (Cn := RX7) (T := TX7) C tyX7_ok nmX7 G (by decide) rfl hin 9 rfl (by decide) rfl hlink rfl rfl (ty := .int) (by decide +kernel) rfl rfl d (fun v2 e2 => by rw [e2, ← e]; exact kk)
theorem gf_8_0 (C : zC E nn cc own Ts) {a idx : Nat} (G : zG E nn a 8 14) (hin : ∀ w ∈ u_ws RX8 TX8 14, w ∈ Ts) (hlink : Cond.fieldLink own idx "PremiumHours$Sheet" "stale" "Z" ∈ Ts) (d : decode cc pc = .ok (.getfield idx, 3)) (kk : zX E k n nn v (pc + 3) lo (zi (v a 0) :: st)) : zX E k n nn v pc lo (zr a :: st) := z_getI (Cn := RX8) (T := TX8) C G (by decide) rfl hin 0 rfl (by decide) rfl hlink rfl d kk
theorem pf_8_0 (C : zC E nn cc own Ts) {a idx : Nat} {x : Int} (G : zG E nn a 8 14) (hin : ∀ w ∈ u_ws RX8 TX8 14, w ∈ Ts) (hlink : Cond.fieldLink own idx "PremiumHours$Sheet" "stale" "Z" ∈ Ts) (hx : x = 0 ∨ x = 1) {v1 : zHp} (e : v1 = zst v a 0 x) (d : decode cc pc = .ok (.putfield idx, 3)) (kk : zX E k n nn v1 (pc + 3) lo st) : zX E k n nn v pc lo (zi x :: zr a :: st) := z_putI (jj := 0) (Cn := RX8) (T := TX8) C tyX8_ok nmX8 G (by decide) rfl hin 0 rfl (by decide) rfl hlink rfl rfl (ty := .boolean) (by decide +kernel) (zbool_n hx) (zbool_f hx) d (fun v2 e2 => by rw [e2, ← e]; exact kk)
theorem gl_8_1 (C : zC E nn cc own Ts) {a idx t : Nat} (G : zG E nn a 8 14) (hin : ∀ w ∈ u_ws RX8 TX8 14, w ∈ Ts) (hlink : Cond.fieldLink own idx "PremiumHours$Sheet" "roles" "[I" ∈ Ts) (hv : v a 1 = (t : Int)) (d : decode cc pc = .ok (.getfield idx, 3)) (kk : zX E k n nn v (pc + 3) lo (zr t :: st)) : zX E k n nn v pc lo (zr a :: st) := z_getR (Cn := RX8) (T := TX8) C G (by decide) rfl hin 1 rfl (by decide) rfl hlink rfl hv d kk
theorem vl_8_1 {a : Nat} (ho : zEo E = 0) (hv : zV 0 137 v) (G : zG E 137 a 8 14) : v a 1 = ((a + 1 : Nat) : Int) := hv.2 a (by have := G.2.1; omega) (by have := G.2.2; omega) 1 (a + 1) (by rw [G.1]; rfl)
theorem lk_8_1 {a : Nat} (ho : zEo E = 0) (G : zG E 137 a 8 14) : zG E 137 (a + 1) 20 60 := by
  have h1 := zK_lt a (by rw [G.1]; decide)
  have h2 := List.all_eq_true.mp (show (List.range 161).all (fun a => !(zK a == (8, 14)) || (zK (a + 1) == (20, 60) && decide (a + 1 < 137))) = true by decide +kernel) a (List.mem_range.mpr h1)
  rw [G.1] at h2
  simp at h2
  have h3 := G.2.1
  exact ⟨h2.1, by omega, by omega⟩
theorem gl_8_2 (C : zC E nn cc own Ts) {a idx t : Nat} (G : zG E nn a 8 14) (hin : ∀ w ∈ u_ws RX8 TX8 14, w ∈ Ts) (hlink : Cond.fieldLink own idx "PremiumHours$Sheet" "spanBegins" "[I" ∈ Ts) (hv : v a 2 = (t : Int)) (d : decode cc pc = .ok (.getfield idx, 3)) (kk : zX E k n nn v (pc + 3) lo (zr t :: st)) : zX E k n nn v pc lo (zr a :: st) := z_getR (Cn := RX8) (T := TX8) C G (by decide) rfl hin 2 rfl (by decide) rfl hlink rfl hv d kk
theorem vl_8_2 {a : Nat} (ho : zEo E = 0) (hv : zV 0 137 v) (G : zG E 137 a 8 14) : v a 2 = ((a + 2 : Nat) : Int) := hv.2 a (by have := G.2.1; omega) (by have := G.2.2; omega) 2 (a + 2) (by rw [G.1]; rfl)
theorem lk_8_2 {a : Nat} (ho : zEo E = 0) (G : zG E 137 a 8 14) : zG E 137 (a + 2) 20 30 := by
  have h1 := zK_lt a (by rw [G.1]; decide)
  have h2 := List.all_eq_true.mp (show (List.range 161).all (fun a => !(zK a == (8, 14)) || (zK (a + 2) == (20, 30) && decide (a + 2 < 137))) = true by decide +kernel) a (List.mem_range.mpr h1)
  rw [G.1] at h2
  simp at h2
  have h3 := G.2.1
  exact ⟨h2.1, by omega, by omega⟩
theorem gl_8_3 (C : zC E nn cc own Ts) {a idx t : Nat} (G : zG E nn a 8 14) (hin : ∀ w ∈ u_ws RX8 TX8 14, w ∈ Ts) (hlink : Cond.fieldLink own idx "PremiumHours$Sheet" "spanEnds" "[I" ∈ Ts) (hv : v a 3 = (t : Int)) (d : decode cc pc = .ok (.getfield idx, 3)) (kk : zX E k n nn v (pc + 3) lo (zr t :: st)) : zX E k n nn v pc lo (zr a :: st) := z_getR (Cn := RX8) (T := TX8) C G (by decide) rfl hin 3 rfl (by decide) rfl hlink rfl hv d kk
theorem vl_8_3 {a : Nat} (ho : zEo E = 0) (hv : zV 0 137 v) (G : zG E 137 a 8 14) : v a 3 = ((a + 3 : Nat) : Int) := hv.2 a (by have := G.2.1; omega) (by have := G.2.2; omega) 3 (a + 3) (by rw [G.1]; rfl)
theorem lk_8_3 {a : Nat} (ho : zEo E = 0) (G : zG E 137 a 8 14) : zG E 137 (a + 3) 20 30 := by
  have h1 := zK_lt a (by rw [G.1]; decide)
  have h2 := List.all_eq_true.mp (show (List.range 161).all (fun a => !(zK a == (8, 14)) || (zK (a + 3) == (20, 30) && decide (a + 3 < 137))) = true by decide +kernel) a (List.mem_range.mpr h1)
  rw [G.1] at h2
  simp at h2
  have h3 := G.2.1
  exact ⟨h2.1, by omega, by omega⟩
theorem gl_8_4 (C : zC E nn cc own Ts) {a idx t : Nat} (G : zG E nn a 8 14) (hin : ∀ w ∈ u_ws RX8 TX8 14, w ∈ Ts) (hlink : Cond.fieldLink own idx "PremiumHours$Sheet" "spanWorked" "[I" ∈ Ts) (hv : v a 4 = (t : Int)) (d : decode cc pc = .ok (.getfield idx, 3)) (kk : zX E k n nn v (pc + 3) lo (zr t :: st)) : zX E k n nn v pc lo (zr a :: st) := z_getR (Cn := RX8) (T := TX8) C G (by decide) rfl hin 4 rfl (by decide) rfl hlink rfl hv d kk
theorem vl_8_4 {a : Nat} (ho : zEo E = 0) (hv : zV 0 137 v) (G : zG E 137 a 8 14) : v a 4 = ((a + 4 : Nat) : Int) := hv.2 a (by have := G.2.1; omega) (by have := G.2.2; omega) 4 (a + 4) (by rw [G.1]; rfl)
theorem lk_8_4 {a : Nat} (ho : zEo E = 0) (G : zG E 137 a 8 14) : zG E 137 (a + 4) 20 30 := by
  have h1 := zK_lt a (by rw [G.1]; decide)
  have h2 := List.all_eq_true.mp (show (List.range 161).all (fun a => !(zK a == (8, 14)) || (zK (a + 4) == (20, 30) && decide (a + 4 < 137))) = true by decide +kernel) a (List.mem_range.mpr h1)
  rw [G.1] at h2
  simp at h2
  have h3 := G.2.1
  exact ⟨h2.1, by omega, by omega⟩
theorem gf_8_5 (C : zC E nn cc own Ts) {a idx : Nat} (G : zG E nn a 8 14) (hin : ∀ w ∈ u_ws RX8 TX8 14, w ∈ Ts) (hlink : Cond.fieldLink own idx "PremiumHours$Sheet" "spanCount" "I" ∈ Ts) (d : decode cc pc = .ok (.getfield idx, 3)) (kk : zX E k n nn v (pc + 3) lo (zi (v a 5) :: st)) : zX E k n nn v pc lo (zr a :: st) := z_getI (Cn := RX8) (T := TX8) C G (by decide) rfl hin 5 rfl (by decide) rfl hlink rfl d kk
theorem pf_8_5 (C : zC E nn cc own Ts) {a idx : Nat} {x : Int} (G : zG E nn a 8 14) (hin : ∀ w ∈ u_ws RX8 TX8 14, w ∈ Ts) (hlink : Cond.fieldLink own idx "PremiumHours$Sheet" "spanCount" "I" ∈ Ts) {v1 : zHp} (e : v1 = zst v a 5 x) (d : decode cc pc = .ok (.putfield idx, 3)) (kk : zX E k n nn v1 (pc + 3) lo st) : zX E k n nn v pc lo (zi x :: zr a :: st) := z_putI (jj := 5) (Cn := RX8) (T := TX8) C tyX8_ok nmX8 G (by decide) rfl hin 5 rfl (by decide) rfl hlink rfl rfl (ty := .int) (by decide +kernel) rfl rfl d (fun v2 e2 => by rw [e2, ← e]; exact kk)
theorem gl_8_6 (C : zC E nn cc own Ts) {a idx t : Nat} (G : zG E nn a 8 14) (hin : ∀ w ∈ u_ws RX8 TX8 14, w ∈ Ts) (hlink : Cond.fieldLink own idx "PremiumHours$Sheet" "paid" "[I" ∈ Ts) (hv : v a 6 = (t : Int)) (d : decode cc pc = .ok (.getfield idx, 3)) (kk : zX E k n nn v (pc + 3) lo (zr t :: st)) : zX E k n nn v pc lo (zr a :: st) := z_getR (Cn := RX8) (T := TX8) C G (by decide) rfl hin 6 rfl (by decide) rfl hlink rfl hv d kk
theorem vl_8_6 {a : Nat} (ho : zEo E = 0) (hv : zV 0 137 v) (G : zG E 137 a 8 14) : v a 6 = ((a + 5 : Nat) : Int) := hv.2 a (by have := G.2.1; omega) (by have := G.2.2; omega) 6 (a + 5) (by rw [G.1]; rfl)
theorem lk_8_6 {a : Nat} (ho : zEo E = 0) (G : zG E 137 a 8 14) : zG E 137 (a + 5) 20 2692 := by
  have h1 := zK_lt a (by rw [G.1]; decide)
  have h2 := List.all_eq_true.mp (show (List.range 161).all (fun a => !(zK a == (8, 14)) || (zK (a + 5) == (20, 2692) && decide (a + 5 < 137))) = true by decide +kernel) a (List.mem_range.mpr h1)
  rw [G.1] at h2
  simp at h2
  have h3 := G.2.1
  exact ⟨h2.1, by omega, by omega⟩
theorem gl_8_7 (C : zC E nn cc own Ts) {a idx t : Nat} (G : zG E nn a 8 14) (hin : ∀ w ∈ u_ws RX8 TX8 14, w ∈ Ts) (hlink : Cond.fieldLink own idx "PremiumHours$Sheet" "came" "[I" ∈ Ts) (hv : v a 7 = (t : Int)) (d : decode cc pc = .ok (.getfield idx, 3)) (kk : zX E k n nn v (pc + 3) lo (zr t :: st)) : zX E k n nn v pc lo (zr a :: st) := z_getR (Cn := RX8) (T := TX8) C G (by decide) rfl hin 7 rfl (by decide) rfl hlink rfl hv d kk
theorem vl_8_7 {a : Nat} (ho : zEo E = 0) (hv : zV 0 137 v) (G : zG E 137 a 8 14) : v a 7 = ((a + 6 : Nat) : Int) := hv.2 a (by have := G.2.1; omega) (by have := G.2.2; omega) 7 (a + 6) (by rw [G.1]; rfl)
theorem lk_8_7 {a : Nat} (ho : zEo E = 0) (G : zG E 137 a 8 14) : zG E 137 (a + 6) 20 2692 := by
  have h1 := zK_lt a (by rw [G.1]; decide)
  have h2 := List.all_eq_true.mp (show (List.range 161).all (fun a => !(zK a == (8, 14)) || (zK (a + 6) == (20, 2692) && decide (a + 6 < 137))) = true by decide +kernel) a (List.mem_range.mpr h1)
  rw [G.1] at h2
  simp at h2
  have h3 := G.2.1
  exact ⟨h2.1, by omega, by omega⟩
theorem gl_8_8 (C : zC E nn cc own Ts) {a idx t : Nat} (G : zG E nn a 8 14) (hin : ∀ w ∈ u_ws RX8 TX8 14, w ∈ Ts) (hlink : Cond.fieldLink own idx "PremiumHours$Sheet" "may" "[I" ∈ Ts) (hv : v a 8 = (t : Int)) (d : decode cc pc = .ok (.getfield idx, 3)) (kk : zX E k n nn v (pc + 3) lo (zr t :: st)) : zX E k n nn v pc lo (zr a :: st) := z_getR (Cn := RX8) (T := TX8) C G (by decide) rfl hin 8 rfl (by decide) rfl hlink rfl hv d kk
theorem vl_8_8 {a : Nat} (ho : zEo E = 0) (hv : zV 0 137 v) (G : zG E 137 a 8 14) : v a 8 = ((a + 7 : Nat) : Int) := hv.2 a (by have := G.2.1; omega) (by have := G.2.2; omega) 8 (a + 7) (by rw [G.1]; rfl)
theorem lk_8_8 {a : Nat} (ho : zEo E = 0) (G : zG E 137 a 8 14) : zG E 137 (a + 7) 20 2692 := by
  have h1 := zK_lt a (by rw [G.1]; decide)
  have h2 := List.all_eq_true.mp (show (List.range 161).all (fun a => !(zK a == (8, 14)) || (zK (a + 7) == (20, 2692) && decide (a + 7 < 137))) = true by decide +kernel) a (List.mem_range.mpr h1)
  rw [G.1] at h2
  simp at h2
  have h3 := G.2.1
  exact ⟨h2.1, by omega, by omega⟩
theorem gl_8_9 (C : zC E nn cc own Ts) {a idx t : Nat} (G : zG E nn a 8 14) (hin : ∀ w ∈ u_ws RX8 TX8 14, w ∈ Ts) (hlink : Cond.fieldLink own idx "PremiumHours$Sheet" "pieces" "LPremiumHours$Pieces;" ∈ Ts) (hv : v a 9 = (t : Int)) (d : decode cc pc = .ok (.getfield idx, 3)) (kk : zX E k n nn v (pc + 3) lo (zr t :: st)) : zX E k n nn v pc lo (zr a :: st) := z_getR (Cn := RX8) (T := TX8) C G (by decide) rfl hin 9 rfl (by decide) rfl hlink rfl hv d kk
theorem pf_8_9 (C : zC E nn cc own Ts) {a idx t : Nat} (G : zG E nn a 8 14) (hin : ∀ w ∈ u_ws RX8 TX8 14, w ∈ Ts) (hlink : Cond.fieldLink own idx "PremiumHours$Sheet" "pieces" "LPremiumHours$Pieces;" ∈ Ts) {v1 : zHp} (e : v1 = zst v a 9 (t : Int)) (d : decode cc pc = .ok (.putfield idx, 3)) (kk : zX E k n nn v1 (pc + 3) lo st) : zX E k n nn v pc lo (zr t :: zr a :: st) := z_putR (jj := 9) (Cn := RX8) (T := TX8) C tyX8_ok nmX8 G (by decide) rfl hin 9 rfl (by decide) rfl hlink rfl (Or.inl rfl) (ty := .object "PremiumHours$Pieces") (by decide +kernel) (fun _ => rfl) (fun _ => rfl) d (fun v2 e2 => by rw [e2, ← e]; exact kk)
theorem gl_8_10 (C : zC E nn cc own Ts) {a idx t : Nat} (G : zG E nn a 8 14) (hin : ∀ w ∈ u_ws RX8 TX8 14, w ∈ Ts) (hlink : Cond.fieldLink own idx "PremiumHours$Sheet" "earlier" "LPremiumHours$Pieces;" ∈ Ts) (hv : v a 10 = (t : Int)) (d : decode cc pc = .ok (.getfield idx, 3)) (kk : zX E k n nn v (pc + 3) lo (zr t :: st)) : zX E k n nn v pc lo (zr a :: st) := z_getR (Cn := RX8) (T := TX8) C G (by decide) rfl hin 10 rfl (by decide) rfl hlink rfl hv d kk
theorem pf_8_10 (C : zC E nn cc own Ts) {a idx t : Nat} (G : zG E nn a 8 14) (hin : ∀ w ∈ u_ws RX8 TX8 14, w ∈ Ts) (hlink : Cond.fieldLink own idx "PremiumHours$Sheet" "earlier" "LPremiumHours$Pieces;" ∈ Ts) {v1 : zHp} (e : v1 = zst v a 10 (t : Int)) (d : decode cc pc = .ok (.putfield idx, 3)) (kk : zX E k n nn v1 (pc + 3) lo st) : zX E k n nn v pc lo (zr t :: zr a :: st) := z_putR (jj := 10) (Cn := RX8) (T := TX8) C tyX8_ok nmX8 G (by decide) rfl hin 10 rfl (by decide) rfl hlink rfl (Or.inl rfl) (ty := .object "PremiumHours$Pieces") (by decide +kernel) (fun _ => rfl) (fun _ => rfl) d (fun v2 e2 => by rw [e2, ← e]; exact kk)
theorem gl_8_11 (C : zC E nn cc own Ts) {a idx t : Nat} (G : zG E nn a 8 14) (hin : ∀ w ∈ u_ws RX8 TX8 14, w ∈ Ts) (hlink : Cond.fieldLink own idx "PremiumHours$Sheet" "weekPay" "[I" ∈ Ts) (hv : v a 11 = (t : Int)) (d : decode cc pc = .ok (.getfield idx, 3)) (kk : zX E k n nn v (pc + 3) lo (zr t :: st)) : zX E k n nn v pc lo (zr a :: st) := z_getR (Cn := RX8) (T := TX8) C G (by decide) rfl hin 11 rfl (by decide) rfl hlink rfl hv d kk
theorem vl_8_11 {a : Nat} (ho : zEo E = 0) (hv : zV 0 137 v) (G : zG E 137 a 8 14) : v a 11 = ((a + 14 : Nat) : Int) := hv.2 a (by have := G.2.1; omega) (by have := G.2.2; omega) 11 (a + 14) (by rw [G.1]; rfl)
theorem lk_8_11 {a : Nat} (ho : zEo E = 0) (G : zG E 137 a 8 14) : zG E 137 (a + 14) 20 4 := by
  have h1 := zK_lt a (by rw [G.1]; decide)
  have h2 := List.all_eq_true.mp (show (List.range 161).all (fun a => !(zK a == (8, 14)) || (zK (a + 14) == (20, 4) && decide (a + 14 < 137))) = true by decide +kernel) a (List.mem_range.mpr h1)
  rw [G.1] at h2
  simp at h2
  have h3 := G.2.1
  exact ⟨h2.1, by omega, by omega⟩
theorem gf_8_12 (C : zC E nn cc own Ts) {a idx : Nat} (G : zG E nn a 8 14) (hin : ∀ w ∈ u_ws RX8 TX8 14, w ∈ Ts) (hlink : Cond.fieldLink own idx "PremiumHours$Sheet" "knownWeeks" "I" ∈ Ts) (d : decode cc pc = .ok (.getfield idx, 3)) (kk : zX E k n nn v (pc + 3) lo (zi (v a 12) :: st)) : zX E k n nn v pc lo (zr a :: st) := z_getI (Cn := RX8) (T := TX8) C G (by decide) rfl hin 12 rfl (by decide) rfl hlink rfl d kk
theorem pf_8_12 (C : zC E nn cc own Ts) {a idx : Nat} {x : Int} (G : zG E nn a 8 14) (hin : ∀ w ∈ u_ws RX8 TX8 14, w ∈ Ts) (hlink : Cond.fieldLink own idx "PremiumHours$Sheet" "knownWeeks" "I" ∈ Ts) {v1 : zHp} (e : v1 = zst v a 12 x) (d : decode cc pc = .ok (.putfield idx, 3)) (kk : zX E k n nn v1 (pc + 3) lo st) : zX E k n nn v pc lo (zi x :: zr a :: st) := z_putI (jj := 12) (Cn := RX8) (T := TX8) C tyX8_ok nmX8 G (by decide) rfl hin 12 rfl (by decide) rfl hlink rfl rfl (ty := .int) (by decide +kernel) rfl rfl d (fun v2 e2 => by rw [e2, ← e]; exact kk)
theorem gf_8_13 (C : zC E nn cc own Ts) {a idx : Nat} (G : zG E nn a 8 14) (hin : ∀ w ∈ u_ws RX8 TX8 14, w ∈ Ts) (hlink : Cond.fieldLink own idx "PremiumHours$Sheet" "allowedThen" "I" ∈ Ts) (d : decode cc pc = .ok (.getfield idx, 3)) (kk : zX E k n nn v (pc + 3) lo (zi (v a 13) :: st)) : zX E k n nn v pc lo (zr a :: st) := z_getI (Cn := RX8) (T := TX8) C G (by decide) rfl hin 13 rfl (by decide) rfl hlink rfl d kk
theorem pf_8_13 (C : zC E nn cc own Ts) {a idx : Nat} {x : Int} (G : zG E nn a 8 14) (hin : ∀ w ∈ u_ws RX8 TX8 14, w ∈ Ts) (hlink : Cond.fieldLink own idx "PremiumHours$Sheet" "allowedThen" "I" ∈ Ts) {v1 : zHp} (e : v1 = zst v a 13 x) (d : decode cc pc = .ok (.putfield idx, 3)) (kk : zX E k n nn v1 (pc + 3) lo st) : zX E k n nn v pc lo (zi x :: zr a :: st) := z_putI (jj := 13) (Cn := RX8) (T := TX8) C tyX8_ok nmX8 G (by decide) rfl hin 13 rfl (by decide) rfl hlink rfl rfl (ty := .int) (by decide +kernel) rfl rfl d (fun v2 e2 => by rw [e2, ← e]; exact kk)
theorem gl_9_0 (C : zC E nn cc own Ts) {a idx t : Nat} (G : zG E nn a 9 6) (hin : ∀ w ∈ u_ws RX9 TX9 6, w ∈ Ts) (hlink : Cond.fieldLink own idx "PremiumHours$Tape" "bytes" "[I" ∈ Ts) (hv : v a 0 = (t : Int)) (d : decode cc pc = .ok (.getfield idx, 3)) (kk : zX E k n nn v (pc + 3) lo (zr t :: st)) : zX E k n nn v pc lo (zr a :: st) := z_getR (Cn := RX9) (T := TX9) C G (by decide) rfl hin 0 rfl (by decide) rfl hlink rfl hv d kk
theorem vl_9_0 {a : Nat} (ho : zEo E = 0) (hv : zV 0 137 v) (G : zG E 137 a 9 6) : v a 0 = ((a + 1 : Nat) : Int) := hv.2 a (by have := G.2.1; omega) (by have := G.2.2; omega) 0 (a + 1) (by rw [G.1]; rfl)
theorem lk_9_0 {a : Nat} (ho : zEo E = 0) (G : zG E 137 a 9 6) : zG E 137 (a + 1) 20 400 := by
  have h1 := zK_lt a (by rw [G.1]; decide)
  have h2 := List.all_eq_true.mp (show (List.range 161).all (fun a => !(zK a == (9, 6)) || (zK (a + 1) == (20, 400) && decide (a + 1 < 137))) = true by decide +kernel) a (List.mem_range.mpr h1)
  rw [G.1] at h2
  simp at h2
  have h3 := G.2.1
  exact ⟨h2.1, by omega, by omega⟩
theorem gf_9_1 (C : zC E nn cc own Ts) {a idx : Nat} (G : zG E nn a 9 6) (hin : ∀ w ∈ u_ws RX9 TX9 6, w ∈ Ts) (hlink : Cond.fieldLink own idx "PremiumHours$Tape" "size" "I" ∈ Ts) (d : decode cc pc = .ok (.getfield idx, 3)) (kk : zX E k n nn v (pc + 3) lo (zi (v a 1) :: st)) : zX E k n nn v pc lo (zr a :: st) := z_getI (Cn := RX9) (T := TX9) C G (by decide) rfl hin 1 rfl (by decide) rfl hlink rfl d kk
theorem pf_9_1 (C : zC E nn cc own Ts) {a idx : Nat} {x : Int} (G : zG E nn a 9 6) (hin : ∀ w ∈ u_ws RX9 TX9 6, w ∈ Ts) (hlink : Cond.fieldLink own idx "PremiumHours$Tape" "size" "I" ∈ Ts) {v1 : zHp} (e : v1 = zst v a 1 x) (d : decode cc pc = .ok (.putfield idx, 3)) (kk : zX E k n nn v1 (pc + 3) lo st) : zX E k n nn v pc lo (zi x :: zr a :: st) := z_putI (jj := 1) (Cn := RX9) (T := TX9) C tyX9_ok nmX9 G (by decide) rfl hin 1 rfl (by decide) rfl hlink rfl rfl (ty := .int) (by decide +kernel) rfl rfl d (fun v2 e2 => by rw [e2, ← e]; exact kk)
theorem gf_9_2 (C : zC E nn cc own Ts) {a idx : Nat} (G : zG E nn a 9 6) (hin : ∀ w ∈ u_ws RX9 TX9 6, w ∈ Ts) (hlink : Cond.fieldLink own idx "PremiumHours$Tape" "limit" "I" ∈ Ts) (d : decode cc pc = .ok (.getfield idx, 3)) (kk : zX E k n nn v (pc + 3) lo (zi (v a 2) :: st)) : zX E k n nn v pc lo (zr a :: st) := z_getI (Cn := RX9) (T := TX9) C G (by decide) rfl hin 2 rfl (by decide) rfl hlink rfl d kk
theorem pf_9_2 (C : zC E nn cc own Ts) {a idx : Nat} {x : Int} (G : zG E nn a 9 6) (hin : ∀ w ∈ u_ws RX9 TX9 6, w ∈ Ts) (hlink : Cond.fieldLink own idx "PremiumHours$Tape" "limit" "I" ∈ Ts) {v1 : zHp} (e : v1 = zst v a 2 x) (d : decode cc pc = .ok (.putfield idx, 3)) (kk : zX E k n nn v1 (pc + 3) lo st) : zX E k n nn v pc lo (zi x :: zr a :: st) := z_putI (jj := 2) (Cn := RX9) (T := TX9) C tyX9_ok nmX9 G (by decide) rfl hin 2 rfl (by decide) rfl hlink rfl rfl (ty := .int) (by decide +kernel) rfl rfl d (fun v2 e2 => by rw [e2, ← e]; exact kk)
theorem gf_9_3 (C : zC E nn cc own Ts) {a idx : Nat} (G : zG E nn a 9 6) (hin : ∀ w ∈ u_ws RX9 TX9 6, w ∈ Ts) (hlink : Cond.fieldLink own idx "PremiumHours$Tape" "sort" "I" ∈ Ts) (d : decode cc pc = .ok (.getfield idx, 3)) (kk : zX E k n nn v (pc + 3) lo (zi (v a 3) :: st)) : zX E k n nn v pc lo (zr a :: st) := z_getI (Cn := RX9) (T := TX9) C G (by decide) rfl hin 3 rfl (by decide) rfl hlink rfl d kk
theorem pf_9_3 (C : zC E nn cc own Ts) {a idx : Nat} {x : Int} (G : zG E nn a 9 6) (hin : ∀ w ∈ u_ws RX9 TX9 6, w ∈ Ts) (hlink : Cond.fieldLink own idx "PremiumHours$Tape" "sort" "I" ∈ Ts) {v1 : zHp} (e : v1 = zst v a 3 x) (d : decode cc pc = .ok (.putfield idx, 3)) (kk : zX E k n nn v1 (pc + 3) lo st) : zX E k n nn v pc lo (zi x :: zr a :: st) := z_putI (jj := 3) (Cn := RX9) (T := TX9) C tyX9_ok nmX9 G (by decide) rfl hin 3 rfl (by decide) rfl hlink rfl rfl (ty := .int) (by decide +kernel) rfl rfl d (fun v2 e2 => by rw [e2, ← e]; exact kk)
theorem gf_9_4 (C : zC E nn cc own Ts) {a idx : Nat} (G : zG E nn a 9 6) (hin : ∀ w ∈ u_ws RX9 TX9 6, w ∈ Ts) (hlink : Cond.fieldLink own idx "PremiumHours$Tape" "start" "I" ∈ Ts) (d : decode cc pc = .ok (.getfield idx, 3)) (kk : zX E k n nn v (pc + 3) lo (zi (v a 4) :: st)) : zX E k n nn v pc lo (zr a :: st) := z_getI (Cn := RX9) (T := TX9) C G (by decide) rfl hin 4 rfl (by decide) rfl hlink rfl d kk
theorem pf_9_4 (C : zC E nn cc own Ts) {a idx : Nat} {x : Int} (G : zG E nn a 9 6) (hin : ∀ w ∈ u_ws RX9 TX9 6, w ∈ Ts) (hlink : Cond.fieldLink own idx "PremiumHours$Tape" "start" "I" ∈ Ts) {v1 : zHp} (e : v1 = zst v a 4 x) (d : decode cc pc = .ok (.putfield idx, 3)) (kk : zX E k n nn v1 (pc + 3) lo st) : zX E k n nn v pc lo (zi x :: zr a :: st) := z_putI (jj := 4) (Cn := RX9) (T := TX9) C tyX9_ok nmX9 G (by decide) rfl hin 4 rfl (by decide) rfl hlink rfl rfl (ty := .int) (by decide +kernel) rfl rfl d (fun v2 e2 => by rw [e2, ← e]; exact kk)
theorem gf_9_5 (C : zC E nn cc own Ts) {a idx : Nat} (G : zG E nn a 9 6) (hin : ∀ w ∈ u_ws RX9 TX9 6, w ∈ Ts) (hlink : Cond.fieldLink own idx "PremiumHours$Tape" "end" "I" ∈ Ts) (d : decode cc pc = .ok (.getfield idx, 3)) (kk : zX E k n nn v (pc + 3) lo (zi (v a 5) :: st)) : zX E k n nn v pc lo (zr a :: st) := z_getI (Cn := RX9) (T := TX9) C G (by decide) rfl hin 5 rfl (by decide) rfl hlink rfl d kk
theorem pf_9_5 (C : zC E nn cc own Ts) {a idx : Nat} {x : Int} (G : zG E nn a 9 6) (hin : ∀ w ∈ u_ws RX9 TX9 6, w ∈ Ts) (hlink : Cond.fieldLink own idx "PremiumHours$Tape" "end" "I" ∈ Ts) {v1 : zHp} (e : v1 = zst v a 5 x) (d : decode cc pc = .ok (.putfield idx, 3)) (kk : zX E k n nn v1 (pc + 3) lo st) : zX E k n nn v pc lo (zi x :: zr a :: st) := z_putI (jj := 5) (Cn := RX9) (T := TX9) C tyX9_ok nmX9 G (by decide) rfl hin 5 rfl (by decide) rfl hlink rfl rfl (ty := .int) (by decide +kernel) rfl rfl d (fun v2 e2 => by rw [e2, ← e]; exact kk)
theorem gl_10_0 (C : zC E nn cc own Ts) {a idx t : Nat} (G : zG E nn a 10 5) (hin : ∀ w ∈ u_ws RX10 TX10 5, w ∈ Ts) (hlink : Cond.fieldLink own idx "PremiumHours$Week" "quarters" "[I" ∈ Ts) (hv : v a 0 = (t : Int)) (d : decode cc pc = .ok (.getfield idx, 3)) (kk : zX E k n nn v (pc + 3) lo (zr t :: st)) : zX E k n nn v pc lo (zr a :: st) := z_getR (Cn := RX10) (T := TX10) C G (by decide) rfl hin 0 rfl (by decide) rfl hlink rfl hv d kk
theorem vl_10_0 {a : Nat} (ho : zEo E = 0) (hv : zV 0 137 v) (G : zG E 137 a 10 5) : v a 0 = ((a + 1 : Nat) : Int) := hv.2 a (by have := G.2.1; omega) (by have := G.2.2; omega) 0 (a + 1) (by rw [G.1]; rfl)
theorem lk_10_0 {a : Nat} (ho : zEo E = 0) (G : zG E 137 a 10 5) : zG E 137 (a + 1) 20 676 := by
  have h1 := zK_lt a (by rw [G.1]; decide)
  have h2 := List.all_eq_true.mp (show (List.range 161).all (fun a => !(zK a == (10, 5)) || (zK (a + 1) == (20, 676) && decide (a + 1 < 137))) = true by decide +kernel) a (List.mem_range.mpr h1)
  rw [G.1] at h2
  simp at h2
  have h3 := G.2.1
  exact ⟨h2.1, by omega, by omega⟩
theorem gl_10_1 (C : zC E nn cc own Ts) {a idx t : Nat} (G : zG E nn a 10 5) (hin : ∀ w ∈ u_ws RX10 TX10 5, w ∈ Ts) (hlink : Cond.fieldLink own idx "PremiumHours$Week" "bits" "[I" ∈ Ts) (hv : v a 1 = (t : Int)) (d : decode cc pc = .ok (.getfield idx, 3)) (kk : zX E k n nn v (pc + 3) lo (zr t :: st)) : zX E k n nn v pc lo (zr a :: st) := z_getR (Cn := RX10) (T := TX10) C G (by decide) rfl hin 1 rfl (by decide) rfl hlink rfl hv d kk
theorem vl_10_1 {a : Nat} (ho : zEo E = 0) (hv : zV 0 137 v) (G : zG E 137 a 10 5) : v a 1 = ((a + 2 : Nat) : Int) := hv.2 a (by have := G.2.1; omega) (by have := G.2.2; omega) 1 (a + 2) (by rw [G.1]; rfl)
theorem lk_10_1 {a : Nat} (ho : zEo E = 0) (G : zG E 137 a 10 5) : zG E 137 (a + 2) 20 676 := by
  have h1 := zK_lt a (by rw [G.1]; decide)
  have h2 := List.all_eq_true.mp (show (List.range 161).all (fun a => !(zK a == (10, 5)) || (zK (a + 2) == (20, 676) && decide (a + 2 < 137))) = true by decide +kernel) a (List.mem_range.mpr h1)
  rw [G.1] at h2
  simp at h2
  have h3 := G.2.1
  exact ⟨h2.1, by omega, by omega⟩
theorem gl_10_2 (C : zC E nn cc own Ts) {a idx t : Nat} (G : zG E nn a 10 5) (hin : ∀ w ∈ u_ws RX10 TX10 5, w ∈ Ts) (hlink : Cond.fieldLink own idx "PremiumHours$Week" "paid" "[I" ∈ Ts) (hv : v a 2 = (t : Int)) (d : decode cc pc = .ok (.getfield idx, 3)) (kk : zX E k n nn v (pc + 3) lo (zr t :: st)) : zX E k n nn v pc lo (zr a :: st) := z_getR (Cn := RX10) (T := TX10) C G (by decide) rfl hin 2 rfl (by decide) rfl hlink rfl hv d kk
theorem vl_10_2 {a : Nat} (ho : zEo E = 0) (hv : zV 0 137 v) (G : zG E 137 a 10 5) : v a 2 = ((a + 3 : Nat) : Int) := hv.2 a (by have := G.2.1; omega) (by have := G.2.2; omega) 2 (a + 3) (by rw [G.1]; rfl)
theorem lk_10_2 {a : Nat} (ho : zEo E = 0) (G : zG E 137 a 10 5) : zG E 137 (a + 3) 20 676 := by
  have h1 := zK_lt a (by rw [G.1]; decide)
  have h2 := List.all_eq_true.mp (show (List.range 161).all (fun a => !(zK a == (10, 5)) || (zK (a + 3) == (20, 676) && decide (a + 3 < 137))) = true by decide +kernel) a (List.mem_range.mpr h1)
  rw [G.1] at h2
  simp at h2
  have h3 := G.2.1
  exact ⟨h2.1, by omega, by omega⟩
theorem gf_10_3 (C : zC E nn cc own Ts) {a idx : Nat} (G : zG E nn a 10 5) (hin : ∀ w ∈ u_ws RX10 TX10 5, w ∈ Ts) (hlink : Cond.fieldLink own idx "PremiumHours$Week" "size" "I" ∈ Ts) (d : decode cc pc = .ok (.getfield idx, 3)) (kk : zX E k n nn v (pc + 3) lo (zi (v a 3) :: st)) : zX E k n nn v pc lo (zr a :: st) := z_getI (Cn := RX10) (T := TX10) C G (by decide) rfl hin 3 rfl (by decide) rfl hlink rfl d kk
theorem pf_10_3 (C : zC E nn cc own Ts) {a idx : Nat} {x : Int} (G : zG E nn a 10 5) (hin : ∀ w ∈ u_ws RX10 TX10 5, w ∈ Ts) (hlink : Cond.fieldLink own idx "PremiumHours$Week" "size" "I" ∈ Ts) {v1 : zHp} (e : v1 = zst v a 3 x) (d : decode cc pc = .ok (.putfield idx, 3)) (kk : zX E k n nn v1 (pc + 3) lo st) : zX E k n nn v pc lo (zi x :: zr a :: st) := z_putI (jj := 3) (Cn := RX10) (T := TX10) C tyX10_ok nmX10 G (by decide) rfl hin 3 rfl (by decide) rfl hlink rfl rfl (ty := .int) (by decide +kernel) rfl rfl d (fun v2 e2 => by rw [e2, ← e]; exact kk)
theorem gf_10_4 (C : zC E nn cc own Ts) {a idx : Nat} (G : zG E nn a 10 5) (hin : ∀ w ∈ u_ws RX10 TX10 5, w ∈ Ts) (hlink : Cond.fieldLink own idx "PremiumHours$Week" "daysWorked" "I" ∈ Ts) (d : decode cc pc = .ok (.getfield idx, 3)) (kk : zX E k n nn v (pc + 3) lo (zi (v a 4) :: st)) : zX E k n nn v pc lo (zr a :: st) := z_getI (Cn := RX10) (T := TX10) C G (by decide) rfl hin 4 rfl (by decide) rfl hlink rfl d kk
theorem pf_10_4 (C : zC E nn cc own Ts) {a idx : Nat} {x : Int} (G : zG E nn a 10 5) (hin : ∀ w ∈ u_ws RX10 TX10 5, w ∈ Ts) (hlink : Cond.fieldLink own idx "PremiumHours$Week" "daysWorked" "I" ∈ Ts) {v1 : zHp} (e : v1 = zst v a 4 x) (d : decode cc pc = .ok (.putfield idx, 3)) (kk : zX E k n nn v1 (pc + 3) lo st) : zX E k n nn v pc lo (zi x :: zr a :: st) := z_putI (jj := 4) (Cn := RX10) (T := TX10) C tyX10_ok nmX10 G (by decide) rfl hin 4 rfl (by decide) rfl hlink rfl rfl (ty := .int) (by decide +kernel) rfl rfl d (fun v2 e2 => by rw [e2, ← e]; exact kk)
theorem gl_11_0 (C : zC E nn cc own Ts) {a idx t : Nat} (G : zG E nn a 11 10) (hin : ∀ w ∈ u_ws RX11 TX11 10, w ∈ Ts) (hlink : Cond.fieldLink own idx "PremiumHours" "tape" "LPremiumHours$Tape;" ∈ Ts) (hv : v a 0 = (t : Int)) (d : decode cc pc = .ok (.getfield idx, 3)) (kk : zX E k n nn v (pc + 3) lo (zr t :: st)) : zX E k n nn v pc lo (zr a :: st) := z_getR (Cn := RX11) (T := TX11) C G (by decide) rfl hin 0 rfl (by decide) rfl hlink rfl hv d kk
theorem vl_11_0 {a : Nat} (ho : zEo E = 0) (hv : zV 0 137 v) (G : zG E 137 a 11 10) : v a 0 = ((a + 1 : Nat) : Int) := hv.2 a (by have := G.2.1; omega) (by have := G.2.2; omega) 0 (a + 1) (by rw [G.1]; rfl)
theorem lk_11_0 {a : Nat} (ho : zEo E = 0) (G : zG E 137 a 11 10) : zG E 137 (a + 1) 9 6 := by
  have h1 := zK_lt a (by rw [G.1]; decide)
  have h2 := List.all_eq_true.mp (show (List.range 161).all (fun a => !(zK a == (11, 10)) || (zK (a + 1) == (9, 6) && decide (a + 1 < 137))) = true by decide +kernel) a (List.mem_range.mpr h1)
  rw [G.1] at h2
  simp at h2
  have h3 := G.2.1
  exact ⟨h2.1, by omega, by omega⟩
theorem gl_11_1 (C : zC E nn cc own Ts) {a idx t : Nat} (G : zG E nn a 11 10) (hin : ∀ w ∈ u_ws RX11 TX11 10, w ∈ Ts) (hlink : Cond.fieldLink own idx "PremiumHours" "reader" "LPremiumHours$RuleReader;" ∈ Ts) (hv : v a 1 = (t : Int)) (d : decode cc pc = .ok (.getfield idx, 3)) (kk : zX E k n nn v (pc + 3) lo (zr t :: st)) : zX E k n nn v pc lo (zr a :: st) := z_getR (Cn := RX11) (T := TX11) C G (by decide) rfl hin 1 rfl (by decide) rfl hlink rfl hv d kk
theorem vl_11_1 {a : Nat} (ho : zEo E = 0) (hv : zV 0 137 v) (G : zG E 137 a 11 10) : v a 1 = ((a + 3 : Nat) : Int) := hv.2 a (by have := G.2.1; omega) (by have := G.2.2; omega) 1 (a + 3) (by rw [G.1]; rfl)
theorem lk_11_1 {a : Nat} (ho : zEo E = 0) (G : zG E 137 a 11 10) : zG E 137 (a + 3) 6 2 := by
  have h1 := zK_lt a (by rw [G.1]; decide)
  have h2 := List.all_eq_true.mp (show (List.range 161).all (fun a => !(zK a == (11, 10)) || (zK (a + 3) == (6, 2) && decide (a + 3 < 137))) = true by decide +kernel) a (List.mem_range.mpr h1)
  rw [G.1] at h2
  simp at h2
  have h3 := G.2.1
  exact ⟨h2.1, by omega, by omega⟩
theorem gl_11_2 (C : zC E nn cc own Ts) {a idx t : Nat} (G : zG E nn a 11 10) (hin : ∀ w ∈ u_ws RX11 TX11 10, w ∈ Ts) (hlink : Cond.fieldLink own idx "PremiumHours" "inForce" "LPremiumHours$Rules;" ∈ Ts) (hv : v a 2 = (t : Int)) (d : decode cc pc = .ok (.getfield idx, 3)) (kk : zX E k n nn v (pc + 3) lo (zr t :: st)) : zX E k n nn v pc lo (zr a :: st) := z_getR (Cn := RX11) (T := TX11) C G (by decide) rfl hin 2 rfl (by decide) rfl hlink rfl hv d kk
theorem pf_11_2 (C : zC E nn cc own Ts) {a idx t : Nat} (G : zG E nn a 11 10) (hin : ∀ w ∈ u_ws RX11 TX11 10, w ∈ Ts) (hlink : Cond.fieldLink own idx "PremiumHours" "inForce" "LPremiumHours$Rules;" ∈ Ts) {v1 : zHp} (e : v1 = zst v a 2 (t : Int)) (d : decode cc pc = .ok (.putfield idx, 3)) (kk : zX E k n nn v1 (pc + 3) lo st) : zX E k n nn v pc lo (zr t :: zr a :: st) := z_putR (jj := 2) (Cn := RX11) (T := TX11) C tyX11_ok nmX11 G (by decide) rfl hin 2 rfl (by decide) rfl hlink rfl (Or.inl rfl) (ty := .object "PremiumHours$Rules") (by decide +kernel) (fun _ => rfl) (fun _ => rfl) d (fun v2 e2 => by rw [e2, ← e]; exact kk)
theorem gl_11_3 (C : zC E nn cc own Ts) {a idx t : Nat} (G : zG E nn a 11 10) (hin : ∀ w ∈ u_ws RX11 TX11 10, w ∈ Ts) (hlink : Cond.fieldLink own idx "PremiumHours" "spare" "LPremiumHours$Rules;" ∈ Ts) (hv : v a 3 = (t : Int)) (d : decode cc pc = .ok (.getfield idx, 3)) (kk : zX E k n nn v (pc + 3) lo (zr t :: st)) : zX E k n nn v pc lo (zr a :: st) := z_getR (Cn := RX11) (T := TX11) C G (by decide) rfl hin 3 rfl (by decide) rfl hlink rfl hv d kk
theorem pf_11_3 (C : zC E nn cc own Ts) {a idx t : Nat} (G : zG E nn a 11 10) (hin : ∀ w ∈ u_ws RX11 TX11 10, w ∈ Ts) (hlink : Cond.fieldLink own idx "PremiumHours" "spare" "LPremiumHours$Rules;" ∈ Ts) {v1 : zHp} (e : v1 = zst v a 3 (t : Int)) (d : decode cc pc = .ok (.putfield idx, 3)) (kk : zX E k n nn v1 (pc + 3) lo st) : zX E k n nn v pc lo (zr t :: zr a :: st) := z_putR (jj := 3) (Cn := RX11) (T := TX11) C tyX11_ok nmX11 G (by decide) rfl hin 3 rfl (by decide) rfl hlink rfl (Or.inl rfl) (ty := .object "PremiumHours$Rules") (by decide +kernel) (fun _ => rfl) (fun _ => rfl) d (fun v2 e2 => by rw [e2, ← e]; exact kk)
theorem gl_11_4 (C : zC E nn cc own Ts) {a idx t : Nat} (G : zG E nn a 11 10) (hin : ∀ w ∈ u_ws RX11 TX11 10, w ∈ Ts) (hlink : Cond.fieldLink own idx "PremiumHours" "cards" "[LPremiumHours$Card;" ∈ Ts) (hv : v a 4 = (t : Int)) (d : decode cc pc = .ok (.getfield idx, 3)) (kk : zX E k n nn v (pc + 3) lo (zr t :: st)) : zX E k n nn v pc lo (zr a :: st) := z_getR (Cn := RX11) (T := TX11) C G (by decide) rfl hin 4 rfl (by decide) rfl hlink rfl hv d kk
theorem vl_11_4 {a : Nat} (ho : zEo E = 0) (hv : zV 0 137 v) (G : zG E 137 a 11 10) : v a 4 = ((a + 28 : Nat) : Int) := hv.2 a (by have := G.2.1; omega) (by have := G.2.2; omega) 4 (a + 28) (by rw [G.1]; rfl)
theorem lk_11_4 {a : Nat} (ho : zEo E = 0) (G : zG E 137 a 11 10) : zG E 137 (a + 28) 23 4 := by
  have h1 := zK_lt a (by rw [G.1]; decide)
  have h2 := List.all_eq_true.mp (show (List.range 161).all (fun a => !(zK a == (11, 10)) || (zK (a + 28) == (23, 4) && decide (a + 28 < 137))) = true by decide +kernel) a (List.mem_range.mpr h1)
  rw [G.1] at h2
  simp at h2
  have h3 := G.2.1
  exact ⟨h2.1, by omega, by omega⟩
theorem gl_11_5 (C : zC E nn cc own Ts) {a idx t : Nat} (G : zG E nn a 11 10) (hin : ∀ w ∈ u_ws RX11 TX11 10, w ∈ Ts) (hlink : Cond.fieldLink own idx "PremiumHours" "sheets" "[LPremiumHours$Sheet;" ∈ Ts) (hv : v a 5 = (t : Int)) (d : decode cc pc = .ok (.getfield idx, 3)) (kk : zX E k n nn v (pc + 3) lo (zr t :: st)) : zX E k n nn v pc lo (zr a :: st) := z_getR (Cn := RX11) (T := TX11) C G (by decide) rfl hin 5 rfl (by decide) rfl hlink rfl hv d kk
theorem vl_11_5 {a : Nat} (ho : zEo E = 0) (hv : zV 0 137 v) (G : zG E 137 a 11 10) : v a 5 = ((a + 29 : Nat) : Int) := hv.2 a (by have := G.2.1; omega) (by have := G.2.2; omega) 5 (a + 29) (by rw [G.1]; rfl)
theorem lk_11_5 {a : Nat} (ho : zEo E = 0) (G : zG E 137 a 11 10) : zG E 137 (a + 29) 25 4 := by
  have h1 := zK_lt a (by rw [G.1]; decide)
  have h2 := List.all_eq_true.mp (show (List.range 161).all (fun a => !(zK a == (11, 10)) || (zK (a + 29) == (25, 4) && decide (a + 29 < 137))) = true by decide +kernel) a (List.mem_range.mpr h1)
  rw [G.1] at h2
  simp at h2
  have h3 := G.2.1
  exact ⟨h2.1, by omega, by omega⟩
theorem gl_11_6 (C : zC E nn cc own Ts) {a idx t : Nat} (G : zG E nn a 11 10) (hin : ∀ w ∈ u_ws RX11 TX11 10, w ∈ Ts) (hlink : Cond.fieldLink own idx "PremiumHours" "history" "LPremiumHours$History;" ∈ Ts) (hv : v a 6 = (t : Int)) (d : decode cc pc = .ok (.getfield idx, 3)) (kk : zX E k n nn v (pc + 3) lo (zr t :: st)) : zX E k n nn v pc lo (zr a :: st) := z_getR (Cn := RX11) (T := TX11) C G (by decide) rfl hin 6 rfl (by decide) rfl hlink rfl hv d kk
theorem vl_11_6 {a : Nat} (ho : zEo E = 0) (hv : zV 0 137 v) (G : zG E 137 a 11 10) : v a 6 = ((a + 102 : Nat) : Int) := hv.2 a (by have := G.2.1; omega) (by have := G.2.2; omega) 6 (a + 102) (by rw [G.1]; rfl)
theorem lk_11_6 {a : Nat} (ho : zEo E = 0) (G : zG E 137 a 11 10) : zG E 137 (a + 102) 3 5 := by
  have h1 := zK_lt a (by rw [G.1]; decide)
  have h2 := List.all_eq_true.mp (show (List.range 161).all (fun a => !(zK a == (11, 10)) || (zK (a + 102) == (3, 5) && decide (a + 102 < 137))) = true by decide +kernel) a (List.mem_range.mpr h1)
  rw [G.1] at h2
  simp at h2
  have h3 := G.2.1
  exact ⟨h2.1, by omega, by omega⟩
theorem gl_11_7 (C : zC E nn cc own Ts) {a idx t : Nat} (G : zG E nn a 11 10) (hin : ∀ w ∈ u_ws RX11 TX11 10, w ∈ Ts) (hlink : Cond.fieldLink own idx "PremiumHours" "trialCard" "LPremiumHours$Card;" ∈ Ts) (hv : v a 7 = (t : Int)) (d : decode cc pc = .ok (.getfield idx, 3)) (kk : zX E k n nn v (pc + 3) lo (zr t :: st)) : zX E k n nn v pc lo (zr a :: st) := z_getR (Cn := RX11) (T := TX11) C G (by decide) rfl hin 7 rfl (by decide) rfl hlink rfl hv d kk
theorem vl_11_7 {a : Nat} (ho : zEo E = 0) (hv : zV 0 137 v) (G : zG E 137 a 11 10) : v a 7 = ((a + 107 : Nat) : Int) := hv.2 a (by have := G.2.1; omega) (by have := G.2.2; omega) 7 (a + 107) (by rw [G.1]; rfl)
theorem lk_11_7 {a : Nat} (ho : zEo E = 0) (G : zG E 137 a 11 10) : zG E 137 (a + 107) 1 3 := by
  have h1 := zK_lt a (by rw [G.1]; decide)
  have h2 := List.all_eq_true.mp (show (List.range 161).all (fun a => !(zK a == (11, 10)) || (zK (a + 107) == (1, 3) && decide (a + 107 < 137))) = true by decide +kernel) a (List.mem_range.mpr h1)
  rw [G.1] at h2
  simp at h2
  have h3 := G.2.1
  exact ⟨h2.1, by omega, by omega⟩
theorem gl_11_8 (C : zC E nn cc own Ts) {a idx t : Nat} (G : zG E nn a 11 10) (hin : ∀ w ∈ u_ws RX11 TX11 10, w ∈ Ts) (hlink : Cond.fieldLink own idx "PremiumHours" "trialSheet" "LPremiumHours$Sheet;" ∈ Ts) (hv : v a 8 = (t : Int)) (d : decode cc pc = .ok (.getfield idx, 3)) (kk : zX E k n nn v (pc + 3) lo (zr t :: st)) : zX E k n nn v pc lo (zr a :: st) := z_getR (Cn := RX11) (T := TX11) C G (by decide) rfl hin 8 rfl (by decide) rfl hlink rfl hv d kk
theorem vl_11_8 {a : Nat} (ho : zEo E = 0) (hv : zV 0 137 v) (G : zG E 137 a 11 10) : v a 8 = ((a + 110 : Nat) : Int) := hv.2 a (by have := G.2.1; omega) (by have := G.2.2; omega) 8 (a + 110) (by rw [G.1]; rfl)
theorem lk_11_8 {a : Nat} (ho : zEo E = 0) (G : zG E 137 a 11 10) : zG E 137 (a + 110) 8 14 := by
  have h1 := zK_lt a (by rw [G.1]; decide)
  have h2 := List.all_eq_true.mp (show (List.range 161).all (fun a => !(zK a == (11, 10)) || (zK (a + 110) == (8, 14) && decide (a + 110 < 137))) = true by decide +kernel) a (List.mem_range.mpr h1)
  rw [G.1] at h2
  simp at h2
  have h3 := G.2.1
  exact ⟨h2.1, by omega, by omega⟩
theorem gl_11_9 (C : zC E nn cc own Ts) {a idx t : Nat} (G : zG E nn a 11 10) (hin : ∀ w ∈ u_ws RX11 TX11 10, w ∈ Ts) (hlink : Cond.fieldLink own idx "PremiumHours" "way" "LPremiumHours$BestWay;" ∈ Ts) (hv : v a 9 = (t : Int)) (d : decode cc pc = .ok (.getfield idx, 3)) (kk : zX E k n nn v (pc + 3) lo (zr t :: st)) : zX E k n nn v pc lo (zr a :: st) := z_getR (Cn := RX11) (T := TX11) C G (by decide) rfl hin 9 rfl (by decide) rfl hlink rfl hv d kk
theorem vl_11_9 {a : Nat} (ho : zEo E = 0) (hv : zV 0 137 v) (G : zG E 137 a 11 10) : v a 9 = ((a + 125 : Nat) : Int) := hv.2 a (by have := G.2.1; omega) (by have := G.2.2; omega) 9 (a + 125) (by rw [G.1]; rfl)
theorem lk_11_9 {a : Nat} (ho : zEo E = 0) (G : zG E 137 a 11 10) : zG E 137 (a + 125) 0 9 := by
  have h1 := zK_lt a (by rw [G.1]; decide)
  have h2 := List.all_eq_true.mp (show (List.range 161).all (fun a => !(zK a == (11, 10)) || (zK (a + 125) == (0, 9) && decide (a + 125 < 137))) = true by decide +kernel) a (List.mem_range.mpr h1)
  rw [G.1] at h2
  simp at h2
  have h3 := G.2.1
  exact ⟨h2.1, by omega, by omega⟩
theorem gf_12_0 (C : zC E nn cc own Ts) {a idx : Nat} (G : zG E nn a 12 38) (hin : ∀ w ∈ u_ws RX12 TX12 38, w ∈ Ts) (hlink : Cond.fieldLink own idx "PremiumHoursModel" "thrown" "I" ∈ Ts) (d : decode cc pc = .ok (.getfield idx, 3)) (kk : zX E k n nn v (pc + 3) lo (zi (v a 0) :: st)) : zX E k n nn v pc lo (zr a :: st) := z_getI (Cn := RX12) (T := TX12) C G (by decide) rfl hin 0 rfl (by decide) rfl hlink rfl d kk
theorem pf_12_0 (C : zC E nn cc own Ts) {a idx : Nat} {x : Int} (G : zG E nn a 12 38) (hin : ∀ w ∈ u_ws RX12 TX12 38, w ∈ Ts) (hlink : Cond.fieldLink own idx "PremiumHoursModel" "thrown" "I" ∈ Ts) {v1 : zHp} (e : v1 = zst v a 0 x) (d : decode cc pc = .ok (.putfield idx, 3)) (kk : zX E k n nn v1 (pc + 3) lo st) : zX E k n nn v pc lo (zi x :: zr a :: st) := z_putI (jj := 0) (Cn := RX12) (T := TX12) C tyX12_ok nmX12 G (by decide) rfl hin 0 rfl (by decide) rfl hlink rfl rfl (ty := .int) (by decide +kernel) rfl rfl d (fun v2 e2 => by rw [e2, ← e]; exact kk)
theorem gl_12_1 (C : zC E nn cc own Ts) {a idx t : Nat} (G : zG E nn a 12 38) (hin : ∀ w ∈ u_ws RX12 TX12 38, w ∈ Ts) (hlink : Cond.fieldLink own idx "PremiumHoursModel" "tape" "[B" ∈ Ts) (hv : v a 1 = (t : Int)) (d : decode cc pc = .ok (.getfield idx, 3)) (kk : zX E k n nn v (pc + 3) lo (zr t :: st)) : zX E k n nn v pc lo (zr a :: st) := z_getR (Cn := RX12) (T := TX12) C G (by decide) rfl hin 1 rfl (by decide) rfl hlink rfl hv d kk
theorem vl_12_1 {a : Nat} (ho : zEo E = 137) (hv : zV 137 24 v) (G : zG E 24 a 12 38) : v a 1 = ((a + 1 : Nat) : Int) := hv.2 a (by have := G.2.1; omega) (by have := G.2.2; omega) 1 (a + 1) (by rw [G.1]; rfl)
theorem lk_12_1 {a : Nat} (ho : zEo E = 137) (G : zG E 24 a 12 38) : zG E 24 (a + 1) 22 400 := by
  have h1 := zK_lt a (by rw [G.1]; decide)
  have h2 := List.all_eq_true.mp (show (List.range 161).all (fun a => !(zK a == (12, 38)) || (zK (a + 1) == (22, 400) && decide (a + 1 < 161))) = true by decide +kernel) a (List.mem_range.mpr h1)
  rw [G.1] at h2
  simp at h2
  have h3 := G.2.1
  exact ⟨h2.1, by omega, by omega⟩
theorem gf_12_2 (C : zC E nn cc own Ts) {a idx : Nat} (G : zG E nn a 12 38) (hin : ∀ w ∈ u_ws RX12 TX12 38, w ∈ Ts) (hlink : Cond.fieldLink own idx "PremiumHoursModel" "taped" "I" ∈ Ts) (d : decode cc pc = .ok (.getfield idx, 3)) (kk : zX E k n nn v (pc + 3) lo (zi (v a 2) :: st)) : zX E k n nn v pc lo (zr a :: st) := z_getI (Cn := RX12) (T := TX12) C G (by decide) rfl hin 2 rfl (by decide) rfl hlink rfl d kk
theorem pf_12_2 (C : zC E nn cc own Ts) {a idx : Nat} {x : Int} (G : zG E nn a 12 38) (hin : ∀ w ∈ u_ws RX12 TX12 38, w ∈ Ts) (hlink : Cond.fieldLink own idx "PremiumHoursModel" "taped" "I" ∈ Ts) {v1 : zHp} (e : v1 = zst v a 2 x) (d : decode cc pc = .ok (.putfield idx, 3)) (kk : zX E k n nn v1 (pc + 3) lo st) : zX E k n nn v pc lo (zi x :: zr a :: st) := z_putI (jj := 2) (Cn := RX12) (T := TX12) C tyX12_ok nmX12 G (by decide) rfl hin 2 rfl (by decide) rfl hlink rfl rfl (ty := .int) (by decide +kernel) rfl rfl d (fun v2 e2 => by rw [e2, ← e]; exact kk)
theorem gf_12_3 (C : zC E nn cc own Ts) {a idx : Nat} (G : zG E nn a 12 38) (hin : ∀ w ∈ u_ws RX12 TX12 38, w ∈ Ts) (hlink : Cond.fieldLink own idx "PremiumHoursModel" "size" "I" ∈ Ts) (d : decode cc pc = .ok (.getfield idx, 3)) (kk : zX E k n nn v (pc + 3) lo (zi (v a 3) :: st)) : zX E k n nn v pc lo (zr a :: st) := z_getI (Cn := RX12) (T := TX12) C G (by decide) rfl hin 3 rfl (by decide) rfl hlink rfl d kk
theorem pf_12_3 (C : zC E nn cc own Ts) {a idx : Nat} {x : Int} (G : zG E nn a 12 38) (hin : ∀ w ∈ u_ws RX12 TX12 38, w ∈ Ts) (hlink : Cond.fieldLink own idx "PremiumHoursModel" "size" "I" ∈ Ts) {v1 : zHp} (e : v1 = zst v a 3 x) (d : decode cc pc = .ok (.putfield idx, 3)) (kk : zX E k n nn v1 (pc + 3) lo st) : zX E k n nn v pc lo (zi x :: zr a :: st) := z_putI (jj := 3) (Cn := RX12) (T := TX12) C tyX12_ok nmX12 G (by decide) rfl hin 3 rfl (by decide) rfl hlink rfl rfl (ty := .int) (by decide +kernel) rfl rfl d (fun v2 e2 => by rw [e2, ← e]; exact kk)
theorem gf_12_4 (C : zC E nn cc own Ts) {a idx : Nat} (G : zG E nn a 12 38) (hin : ∀ w ∈ u_ws RX12 TX12 38, w ∈ Ts) (hlink : Cond.fieldLink own idx "PremiumHoursModel" "from" "I" ∈ Ts) (d : decode cc pc = .ok (.getfield idx, 3)) (kk : zX E k n nn v (pc + 3) lo (zi (v a 4) :: st)) : zX E k n nn v pc lo (zr a :: st) := z_getI (Cn := RX12) (T := TX12) C G (by decide) rfl hin 4 rfl (by decide) rfl hlink rfl d kk
theorem pf_12_4 (C : zC E nn cc own Ts) {a idx : Nat} {x : Int} (G : zG E nn a 12 38) (hin : ∀ w ∈ u_ws RX12 TX12 38, w ∈ Ts) (hlink : Cond.fieldLink own idx "PremiumHoursModel" "from" "I" ∈ Ts) {v1 : zHp} (e : v1 = zst v a 4 x) (d : decode cc pc = .ok (.putfield idx, 3)) (kk : zX E k n nn v1 (pc + 3) lo st) : zX E k n nn v pc lo (zi x :: zr a :: st) := z_putI (jj := 4) (Cn := RX12) (T := TX12) C tyX12_ok nmX12 G (by decide) rfl hin 4 rfl (by decide) rfl hlink rfl rfl (ty := .int) (by decide +kernel) rfl rfl d (fun v2 e2 => by rw [e2, ← e]; exact kk)
theorem gf_12_5 (C : zC E nn cc own Ts) {a idx : Nat} (G : zG E nn a 12 38) (hin : ∀ w ∈ u_ws RX12 TX12 38, w ∈ Ts) (hlink : Cond.fieldLink own idx "PremiumHoursModel" "next" "I" ∈ Ts) (d : decode cc pc = .ok (.getfield idx, 3)) (kk : zX E k n nn v (pc + 3) lo (zi (v a 5) :: st)) : zX E k n nn v pc lo (zr a :: st) := z_getI (Cn := RX12) (T := TX12) C G (by decide) rfl hin 5 rfl (by decide) rfl hlink rfl d kk
theorem pf_12_5 (C : zC E nn cc own Ts) {a idx : Nat} {x : Int} (G : zG E nn a 12 38) (hin : ∀ w ∈ u_ws RX12 TX12 38, w ∈ Ts) (hlink : Cond.fieldLink own idx "PremiumHoursModel" "next" "I" ∈ Ts) {v1 : zHp} (e : v1 = zst v a 5 x) (d : decode cc pc = .ok (.putfield idx, 3)) (kk : zX E k n nn v1 (pc + 3) lo st) : zX E k n nn v pc lo (zi x :: zr a :: st) := z_putI (jj := 5) (Cn := RX12) (T := TX12) C tyX12_ok nmX12 G (by decide) rfl hin 5 rfl (by decide) rfl hlink rfl rfl (ty := .int) (by decide +kernel) rfl rfl d (fun v2 e2 => by rw [e2, ← e]; exact kk)
theorem gf_12_6 (C : zC E nn cc own Ts) {a idx : Nat} (G : zG E nn a 12 38) (hin : ∀ w ∈ u_ws RX12 TX12 38, w ∈ Ts) (hlink : Cond.fieldLink own idx "PremiumHoursModel" "token" "I" ∈ Ts) (d : decode cc pc = .ok (.getfield idx, 3)) (kk : zX E k n nn v (pc + 3) lo (zi (v a 6) :: st)) : zX E k n nn v pc lo (zr a :: st) := z_getI (Cn := RX12) (T := TX12) C G (by decide) rfl hin 6 rfl (by decide) rfl hlink rfl d kk
theorem pf_12_6 (C : zC E nn cc own Ts) {a idx : Nat} {x : Int} (G : zG E nn a 12 38) (hin : ∀ w ∈ u_ws RX12 TX12 38, w ∈ Ts) (hlink : Cond.fieldLink own idx "PremiumHoursModel" "token" "I" ∈ Ts) {v1 : zHp} (e : v1 = zst v a 6 x) (d : decode cc pc = .ok (.putfield idx, 3)) (kk : zX E k n nn v1 (pc + 3) lo st) : zX E k n nn v pc lo (zi x :: zr a :: st) := z_putI (jj := 6) (Cn := RX12) (T := TX12) C tyX12_ok nmX12 G (by decide) rfl hin 6 rfl (by decide) rfl hlink rfl rfl (ty := .int) (by decide +kernel) rfl rfl d (fun v2 e2 => by rw [e2, ← e]; exact kk)
theorem gf_12_7 (C : zC E nn cc own Ts) {a idx : Nat} (G : zG E nn a 12 38) (hin : ∀ w ∈ u_ws RX12 TX12 38, w ∈ Ts) (hlink : Cond.fieldLink own idx "PremiumHoursModel" "value" "I" ∈ Ts) (d : decode cc pc = .ok (.getfield idx, 3)) (kk : zX E k n nn v (pc + 3) lo (zi (v a 7) :: st)) : zX E k n nn v pc lo (zr a :: st) := z_getI (Cn := RX12) (T := TX12) C G (by decide) rfl hin 7 rfl (by decide) rfl hlink rfl d kk
theorem pf_12_7 (C : zC E nn cc own Ts) {a idx : Nat} {x : Int} (G : zG E nn a 12 38) (hin : ∀ w ∈ u_ws RX12 TX12 38, w ∈ Ts) (hlink : Cond.fieldLink own idx "PremiumHoursModel" "value" "I" ∈ Ts) {v1 : zHp} (e : v1 = zst v a 7 x) (d : decode cc pc = .ok (.putfield idx, 3)) (kk : zX E k n nn v1 (pc + 3) lo st) : zX E k n nn v pc lo (zi x :: zr a :: st) := z_putI (jj := 7) (Cn := RX12) (T := TX12) C tyX12_ok nmX12 G (by decide) rfl hin 7 rfl (by decide) rfl hlink rfl rfl (ty := .int) (by decide +kernel) rfl rfl d (fun v2 e2 => by rw [e2, ← e]; exact kk)
theorem gf_12_8 (C : zC E nn cc own Ts) {a idx : Nat} (G : zG E nn a 12 38) (hin : ∀ w ∈ u_ws RX12 TX12 38, w ∈ Ts) (hlink : Cond.fieldLink own idx "PremiumHoursModel" "fault" "I" ∈ Ts) (d : decode cc pc = .ok (.getfield idx, 3)) (kk : zX E k n nn v (pc + 3) lo (zi (v a 8) :: st)) : zX E k n nn v pc lo (zr a :: st) := z_getI (Cn := RX12) (T := TX12) C G (by decide) rfl hin 8 rfl (by decide) rfl hlink rfl d kk
theorem pf_12_8 (C : zC E nn cc own Ts) {a idx : Nat} {x : Int} (G : zG E nn a 12 38) (hin : ∀ w ∈ u_ws RX12 TX12 38, w ∈ Ts) (hlink : Cond.fieldLink own idx "PremiumHoursModel" "fault" "I" ∈ Ts) {v1 : zHp} (e : v1 = zst v a 8 x) (d : decode cc pc = .ok (.putfield idx, 3)) (kk : zX E k n nn v1 (pc + 3) lo st) : zX E k n nn v pc lo (zi x :: zr a :: st) := z_putI (jj := 8) (Cn := RX12) (T := TX12) C tyX12_ok nmX12 G (by decide) rfl hin 8 rfl (by decide) rfl hlink rfl rfl (ty := .int) (by decide +kernel) rfl rfl d (fun v2 e2 => by rw [e2, ← e]; exact kk)
theorem gf_12_9 (C : zC E nn cc own Ts) {a idx : Nat} (G : zG E nn a 12 38) (hin : ∀ w ∈ u_ws RX12 TX12 38, w ∈ Ts) (hlink : Cond.fieldLink own idx "PremiumHoursModel" "told" "I" ∈ Ts) (d : decode cc pc = .ok (.getfield idx, 3)) (kk : zX E k n nn v (pc + 3) lo (zi (v a 9) :: st)) : zX E k n nn v pc lo (zr a :: st) := z_getI (Cn := RX12) (T := TX12) C G (by decide) rfl hin 9 rfl (by decide) rfl hlink rfl d kk
theorem pf_12_9 (C : zC E nn cc own Ts) {a idx : Nat} {x : Int} (G : zG E nn a 12 38) (hin : ∀ w ∈ u_ws RX12 TX12 38, w ∈ Ts) (hlink : Cond.fieldLink own idx "PremiumHoursModel" "told" "I" ∈ Ts) {v1 : zHp} (e : v1 = zst v a 9 x) (d : decode cc pc = .ok (.putfield idx, 3)) (kk : zX E k n nn v1 (pc + 3) lo st) : zX E k n nn v pc lo (zi x :: zr a :: st) := z_putI (jj := 9) (Cn := RX12) (T := TX12) C tyX12_ok nmX12 G (by decide) rfl hin 9 rfl (by decide) rfl hlink rfl rfl (ty := .int) (by decide +kernel) rfl rfl d (fun v2 e2 => by rw [e2, ← e]; exact kk)
theorem gl_12_10 (C : zC E nn cc own Ts) {a idx t : Nat} (G : zG E nn a 12 38) (hin : ∀ w ∈ u_ws RX12 TX12 38, w ∈ Ts) (hlink : Cond.fieldLink own idx "PremiumHoursModel" "rules" "[I" ∈ Ts) (hv : v a 10 = (t : Int)) (d : decode cc pc = .ok (.getfield idx, 3)) (kk : zX E k n nn v (pc + 3) lo (zr t :: st)) : zX E k n nn v pc lo (zr a :: st) := z_getR (Cn := RX12) (T := TX12) C G (by decide) rfl hin 10 rfl (by decide) rfl hlink rfl hv d kk
theorem vl_12_10 {a : Nat} (ho : zEo E = 137) (hv : zV 137 24 v) (G : zG E 24 a 12 38) : v a 10 = ((a + 2 : Nat) : Int) := hv.2 a (by have := G.2.1; omega) (by have := G.2.2; omega) 10 (a + 2) (by rw [G.1]; rfl)
theorem lk_12_10 {a : Nat} (ho : zEo E = 137) (G : zG E 24 a 12 38) : zG E 24 (a + 2) 20 51 := by
  have h1 := zK_lt a (by rw [G.1]; decide)
  have h2 := List.all_eq_true.mp (show (List.range 161).all (fun a => !(zK a == (12, 38)) || (zK (a + 2) == (20, 51) && decide (a + 2 < 161))) = true by decide +kernel) a (List.mem_range.mpr h1)
  rw [G.1] at h2
  simp at h2
  have h3 := G.2.1
  exact ⟨h2.1, by omega, by omega⟩
theorem gl_12_11 (C : zC E nn cc own Ts) {a idx t : Nat} (G : zG E nn a 12 38) (hin : ∀ w ∈ u_ws RX12 TX12 38, w ∈ Ts) (hlink : Cond.fieldLink own idx "PremiumHoursModel" "draft" "[I" ∈ Ts) (hv : v a 11 = (t : Int)) (d : decode cc pc = .ok (.getfield idx, 3)) (kk : zX E k n nn v (pc + 3) lo (zr t :: st)) : zX E k n nn v pc lo (zr a :: st) := z_getR (Cn := RX12) (T := TX12) C G (by decide) rfl hin 11 rfl (by decide) rfl hlink rfl hv d kk
theorem vl_12_11 {a : Nat} (ho : zEo E = 137) (hv : zV 137 24 v) (G : zG E 24 a 12 38) : v a 11 = ((a + 3 : Nat) : Int) := hv.2 a (by have := G.2.1; omega) (by have := G.2.2; omega) 11 (a + 3) (by rw [G.1]; rfl)
theorem lk_12_11 {a : Nat} (ho : zEo E = 137) (G : zG E 24 a 12 38) : zG E 24 (a + 3) 20 51 := by
  have h1 := zK_lt a (by rw [G.1]; decide)
  have h2 := List.all_eq_true.mp (show (List.range 161).all (fun a => !(zK a == (12, 38)) || (zK (a + 3) == (20, 51) && decide (a + 3 < 161))) = true by decide +kernel) a (List.mem_range.mpr h1)
  rw [G.1] at h2
  simp at h2
  have h3 := G.2.1
  exact ⟨h2.1, by omega, by omega⟩
theorem gf_12_12 (C : zC E nn cc own Ts) {a idx : Nat} (G : zG E nn a 12 38) (hin : ∀ w ∈ u_ws RX12 TX12 38, w ∈ Ts) (hlink : Cond.fieldLink own idx "PremiumHoursModel" "lines" "I" ∈ Ts) (d : decode cc pc = .ok (.getfield idx, 3)) (kk : zX E k n nn v (pc + 3) lo (zi (v a 12) :: st)) : zX E k n nn v pc lo (zr a :: st) := z_getI (Cn := RX12) (T := TX12) C G (by decide) rfl hin 12 rfl (by decide) rfl hlink rfl d kk
theorem pf_12_12 (C : zC E nn cc own Ts) {a idx : Nat} {x : Int} (G : zG E nn a 12 38) (hin : ∀ w ∈ u_ws RX12 TX12 38, w ∈ Ts) (hlink : Cond.fieldLink own idx "PremiumHoursModel" "lines" "I" ∈ Ts) {v1 : zHp} (e : v1 = zst v a 12 x) (d : decode cc pc = .ok (.putfield idx, 3)) (kk : zX E k n nn v1 (pc + 3) lo st) : zX E k n nn v pc lo (zi x :: zr a :: st) := z_putI (jj := 12) (Cn := RX12) (T := TX12) C tyX12_ok nmX12 G (by decide) rfl hin 12 rfl (by decide) rfl hlink rfl rfl (ty := .int) (by decide +kernel) rfl rfl d (fun v2 e2 => by rw [e2, ← e]; exact kk)
theorem gl_12_13 (C : zC E nn cc own Ts) {a idx t : Nat} (G : zG E nn a 12 38) (hin : ∀ w ∈ u_ws RX12 TX12 38, w ∈ Ts) (hlink : Cond.fieldLink own idx "PremiumHoursModel" "punches" "[I" ∈ Ts) (hv : v a 13 = (t : Int)) (d : decode cc pc = .ok (.getfield idx, 3)) (kk : zX E k n nn v (pc + 3) lo (zr t :: st)) : zX E k n nn v pc lo (zr a :: st) := z_getR (Cn := RX12) (T := TX12) C G (by decide) rfl hin 13 rfl (by decide) rfl hlink rfl hv d kk
theorem vl_12_13 {a : Nat} (ho : zEo E = 137) (hv : zV 137 24 v) (G : zG E 24 a 12 38) : v a 13 = ((a + 4 : Nat) : Int) := hv.2 a (by have := G.2.1; omega) (by have := G.2.2; omega) 13 (a + 4) (by rw [G.1]; rfl)
theorem lk_12_13 {a : Nat} (ho : zEo E = 137) (G : zG E 24 a 12 38) : zG E 24 (a + 4) 20 4 := by
  have h1 := zK_lt a (by rw [G.1]; decide)
  have h2 := List.all_eq_true.mp (show (List.range 161).all (fun a => !(zK a == (12, 38)) || (zK (a + 4) == (20, 4) && decide (a + 4 < 161))) = true by decide +kernel) a (List.mem_range.mpr h1)
  rw [G.1] at h2
  simp at h2
  have h3 := G.2.1
  exact ⟨h2.1, by omega, by omega⟩
theorem gl_12_14 (C : zC E nn cc own Ts) {a idx t : Nat} (G : zG E nn a 12 38) (hin : ∀ w ∈ u_ws RX12 TX12 38, w ∈ Ts) (hlink : Cond.fieldLink own idx "PremiumHoursModel" "when" "[I" ∈ Ts) (hv : v a 14 = (t : Int)) (d : decode cc pc = .ok (.getfield idx, 3)) (kk : zX E k n nn v (pc + 3) lo (zr t :: st)) : zX E k n nn v pc lo (zr a :: st) := z_getR (Cn := RX12) (T := TX12) C G (by decide) rfl hin 14 rfl (by decide) rfl hlink rfl hv d kk
theorem vl_12_14 {a : Nat} (ho : zEo E = 137) (hv : zV 137 24 v) (G : zG E 24 a 12 38) : v a 14 = ((a + 5 : Nat) : Int) := hv.2 a (by have := G.2.1; omega) (by have := G.2.2; omega) 14 (a + 5) (by rw [G.1]; rfl)
theorem lk_12_14 {a : Nat} (ho : zEo E = 137) (G : zG E 24 a 12 38) : zG E 24 (a + 5) 20 244 := by
  have h1 := zK_lt a (by rw [G.1]; decide)
  have h2 := List.all_eq_true.mp (show (List.range 161).all (fun a => !(zK a == (12, 38)) || (zK (a + 5) == (20, 244) && decide (a + 5 < 161))) = true by decide +kernel) a (List.mem_range.mpr h1)
  rw [G.1] at h2
  simp at h2
  have h3 := G.2.1
  exact ⟨h2.1, by omega, by omega⟩
theorem gl_12_15 (C : zC E nn cc own Ts) {a idx t : Nat} (G : zG E nn a 12 38) (hin : ∀ w ∈ u_ws RX12 TX12 38, w ∈ Ts) (hlink : Cond.fieldLink own idx "PremiumHoursModel" "kinds" "[I" ∈ Ts) (hv : v a 15 = (t : Int)) (d : decode cc pc = .ok (.getfield idx, 3)) (kk : zX E k n nn v (pc + 3) lo (zr t :: st)) : zX E k n nn v pc lo (zr a :: st) := z_getR (Cn := RX12) (T := TX12) C G (by decide) rfl hin 15 rfl (by decide) rfl hlink rfl hv d kk
theorem vl_12_15 {a : Nat} (ho : zEo E = 137) (hv : zV 137 24 v) (G : zG E 24 a 12 38) : v a 15 = ((a + 6 : Nat) : Int) := hv.2 a (by have := G.2.1; omega) (by have := G.2.2; omega) 15 (a + 6) (by rw [G.1]; rfl)
theorem lk_12_15 {a : Nat} (ho : zEo E = 137) (G : zG E 24 a 12 38) : zG E 24 (a + 6) 20 244 := by
  have h1 := zK_lt a (by rw [G.1]; decide)
  have h2 := List.all_eq_true.mp (show (List.range 161).all (fun a => !(zK a == (12, 38)) || (zK (a + 6) == (20, 244) && decide (a + 6 < 161))) = true by decide +kernel) a (List.mem_range.mpr h1)
  rw [G.1] at h2
  simp at h2
  have h3 := G.2.1
  exact ⟨h2.1, by omega, by omega⟩
theorem gf_12_16 (C : zC E nn cc own Ts) {a idx : Nat} (G : zG E nn a 12 38) (hin : ∀ w ∈ u_ws RX12 TX12 38, w ∈ Ts) (hlink : Cond.fieldLink own idx "PremiumHoursModel" "undos" "I" ∈ Ts) (d : decode cc pc = .ok (.getfield idx, 3)) (kk : zX E k n nn v (pc + 3) lo (zi (v a 16) :: st)) : zX E k n nn v pc lo (zr a :: st) := z_getI (Cn := RX12) (T := TX12) C G (by decide) rfl hin 16 rfl (by decide) rfl hlink rfl d kk
theorem pf_12_16 (C : zC E nn cc own Ts) {a idx : Nat} {x : Int} (G : zG E nn a 12 38) (hin : ∀ w ∈ u_ws RX12 TX12 38, w ∈ Ts) (hlink : Cond.fieldLink own idx "PremiumHoursModel" "undos" "I" ∈ Ts) {v1 : zHp} (e : v1 = zst v a 16 x) (d : decode cc pc = .ok (.putfield idx, 3)) (kk : zX E k n nn v1 (pc + 3) lo st) : zX E k n nn v pc lo (zi x :: zr a :: st) := z_putI (jj := 16) (Cn := RX12) (T := TX12) C tyX12_ok nmX12 G (by decide) rfl hin 16 rfl (by decide) rfl hlink rfl rfl (ty := .int) (by decide +kernel) rfl rfl d (fun v2 e2 => by rw [e2, ← e]; exact kk)
theorem gl_12_17 (C : zC E nn cc own Ts) {a idx t : Nat} (G : zG E nn a 12 38) (hin : ∀ w ∈ u_ws RX12 TX12 38, w ∈ Ts) (hlink : Cond.fieldLink own idx "PremiumHoursModel" "acts" "[I" ∈ Ts) (hv : v a 17 = (t : Int)) (d : decode cc pc = .ok (.getfield idx, 3)) (kk : zX E k n nn v (pc + 3) lo (zr t :: st)) : zX E k n nn v pc lo (zr a :: st) := z_getR (Cn := RX12) (T := TX12) C G (by decide) rfl hin 17 rfl (by decide) rfl hlink rfl hv d kk
theorem vl_12_17 {a : Nat} (ho : zEo E = 137) (hv : zV 137 24 v) (G : zG E 24 a 12 38) : v a 17 = ((a + 7 : Nat) : Int) := hv.2 a (by have := G.2.1; omega) (by have := G.2.2; omega) 17 (a + 7) (by rw [G.1]; rfl)
theorem lk_12_17 {a : Nat} (ho : zEo E = 137) (G : zG E 24 a 12 38) : zG E 24 (a + 7) 20 64 := by
  have h1 := zK_lt a (by rw [G.1]; decide)
  have h2 := List.all_eq_true.mp (show (List.range 161).all (fun a => !(zK a == (12, 38)) || (zK (a + 7) == (20, 64) && decide (a + 7 < 161))) = true by decide +kernel) a (List.mem_range.mpr h1)
  rw [G.1] at h2
  simp at h2
  have h3 := G.2.1
  exact ⟨h2.1, by omega, by omega⟩
theorem gl_12_18 (C : zC E nn cc own Ts) {a idx t : Nat} (G : zG E nn a 12 38) (hin : ∀ w ∈ u_ws RX12 TX12 38, w ∈ Ts) (hlink : Cond.fieldLink own idx "PremiumHoursModel" "paired" "[I" ∈ Ts) (hv : v a 18 = (t : Int)) (d : decode cc pc = .ok (.getfield idx, 3)) (kk : zX E k n nn v (pc + 3) lo (zr t :: st)) : zX E k n nn v pc lo (zr a :: st) := z_getR (Cn := RX12) (T := TX12) C G (by decide) rfl hin 18 rfl (by decide) rfl hlink rfl hv d kk
theorem vl_12_18 {a : Nat} (ho : zEo E = 137) (hv : zV 137 24 v) (G : zG E 24 a 12 38) : v a 18 = ((a + 8 : Nat) : Int) := hv.2 a (by have := G.2.1; omega) (by have := G.2.2; omega) 18 (a + 8) (by rw [G.1]; rfl)
theorem lk_12_18 {a : Nat} (ho : zEo E = 137) (G : zG E 24 a 12 38) : zG E 24 (a + 8) 20 61 := by
  have h1 := zK_lt a (by rw [G.1]; decide)
  have h2 := List.all_eq_true.mp (show (List.range 161).all (fun a => !(zK a == (12, 38)) || (zK (a + 8) == (20, 61) && decide (a + 8 < 161))) = true by decide +kernel) a (List.mem_range.mpr h1)
  rw [G.1] at h2
  simp at h2
  have h3 := G.2.1
  exact ⟨h2.1, by omega, by omega⟩
theorem gf_12_19 (C : zC E nn cc own Ts) {a idx : Nat} (G : zG E nn a 12 38) (hin : ∀ w ∈ u_ws RX12 TX12 38, w ∈ Ts) (hlink : Cond.fieldLink own idx "PremiumHoursModel" "spans" "I" ∈ Ts) (d : decode cc pc = .ok (.getfield idx, 3)) (kk : zX E k n nn v (pc + 3) lo (zi (v a 19) :: st)) : zX E k n nn v pc lo (zr a :: st) := z_getI (Cn := RX12) (T := TX12) C G (by decide) rfl hin 19 rfl (by decide) rfl hlink rfl d kk
theorem pf_12_19 (C : zC E nn cc own Ts) {a idx : Nat} {x : Int} (G : zG E nn a 12 38) (hin : ∀ w ∈ u_ws RX12 TX12 38, w ∈ Ts) (hlink : Cond.fieldLink own idx "PremiumHoursModel" "spans" "I" ∈ Ts) {v1 : zHp} (e : v1 = zst v a 19 x) (d : decode cc pc = .ok (.putfield idx, 3)) (kk : zX E k n nn v1 (pc + 3) lo st) : zX E k n nn v pc lo (zi x :: zr a :: st) := z_putI (jj := 19) (Cn := RX12) (T := TX12) C tyX12_ok nmX12 G (by decide) rfl hin 19 rfl (by decide) rfl hlink rfl rfl (ty := .int) (by decide +kernel) rfl rfl d (fun v2 e2 => by rw [e2, ← e]; exact kk)
theorem gl_12_20 (C : zC E nn cc own Ts) {a idx t : Nat} (G : zG E nn a 12 38) (hin : ∀ w ∈ u_ws RX12 TX12 38, w ∈ Ts) (hlink : Cond.fieldLink own idx "PremiumHoursModel" "spanFrom" "[I" ∈ Ts) (hv : v a 20 = (t : Int)) (d : decode cc pc = .ok (.getfield idx, 3)) (kk : zX E k n nn v (pc + 3) lo (zr t :: st)) : zX E k n nn v pc lo (zr a :: st) := z_getR (Cn := RX12) (T := TX12) C G (by decide) rfl hin 20 rfl (by decide) rfl hlink rfl hv d kk
theorem vl_12_20 {a : Nat} (ho : zEo E = 137) (hv : zV 137 24 v) (G : zG E 24 a 12 38) : v a 20 = ((a + 9 : Nat) : Int) := hv.2 a (by have := G.2.1; omega) (by have := G.2.2; omega) 20 (a + 9) (by rw [G.1]; rfl)
theorem lk_12_20 {a : Nat} (ho : zEo E = 137) (G : zG E 24 a 12 38) : zG E 24 (a + 9) 20 31 := by
  have h1 := zK_lt a (by rw [G.1]; decide)
  have h2 := List.all_eq_true.mp (show (List.range 161).all (fun a => !(zK a == (12, 38)) || (zK (a + 9) == (20, 31) && decide (a + 9 < 161))) = true by decide +kernel) a (List.mem_range.mpr h1)
  rw [G.1] at h2
  simp at h2
  have h3 := G.2.1
  exact ⟨h2.1, by omega, by omega⟩
theorem gl_12_21 (C : zC E nn cc own Ts) {a idx t : Nat} (G : zG E nn a 12 38) (hin : ∀ w ∈ u_ws RX12 TX12 38, w ∈ Ts) (hlink : Cond.fieldLink own idx "PremiumHoursModel" "spanTo" "[I" ∈ Ts) (hv : v a 21 = (t : Int)) (d : decode cc pc = .ok (.getfield idx, 3)) (kk : zX E k n nn v (pc + 3) lo (zr t :: st)) : zX E k n nn v pc lo (zr a :: st) := z_getR (Cn := RX12) (T := TX12) C G (by decide) rfl hin 21 rfl (by decide) rfl hlink rfl hv d kk
theorem vl_12_21 {a : Nat} (ho : zEo E = 137) (hv : zV 137 24 v) (G : zG E 24 a 12 38) : v a 21 = ((a + 10 : Nat) : Int) := hv.2 a (by have := G.2.1; omega) (by have := G.2.2; omega) 21 (a + 10) (by rw [G.1]; rfl)
theorem lk_12_21 {a : Nat} (ho : zEo E = 137) (G : zG E 24 a 12 38) : zG E 24 (a + 10) 20 31 := by
  have h1 := zK_lt a (by rw [G.1]; decide)
  have h2 := List.all_eq_true.mp (show (List.range 161).all (fun a => !(zK a == (12, 38)) || (zK (a + 10) == (20, 31) && decide (a + 10 < 161))) = true by decide +kernel) a (List.mem_range.mpr h1)
  rw [G.1] at h2
  simp at h2
  have h3 := G.2.1
  exact ⟨h2.1, by omega, by omega⟩
theorem gl_12_22 (C : zC E nn cc own Ts) {a idx t : Nat} (G : zG E nn a 12 38) (hin : ∀ w ∈ u_ws RX12 TX12 38, w ∈ Ts) (hlink : Cond.fieldLink own idx "PremiumHoursModel" "worked" "[Z" ∈ Ts) (hv : v a 22 = (t : Int)) (d : decode cc pc = .ok (.getfield idx, 3)) (kk : zX E k n nn v (pc + 3) lo (zr t :: st)) : zX E k n nn v pc lo (zr a :: st) := z_getR (Cn := RX12) (T := TX12) C G (by decide) rfl hin 22 rfl (by decide) rfl hlink rfl hv d kk
theorem vl_12_22 {a : Nat} (ho : zEo E = 137) (hv : zV 137 24 v) (G : zG E 24 a 12 38) : v a 22 = ((a + 11 : Nat) : Int) := hv.2 a (by have := G.2.1; omega) (by have := G.2.2; omega) 22 (a + 11) (by rw [G.1]; rfl)
theorem lk_12_22 {a : Nat} (ho : zEo E = 137) (G : zG E 24 a 12 38) : zG E 24 (a + 11) 21 2720 := by
  have h1 := zK_lt a (by rw [G.1]; decide)
  have h2 := List.all_eq_true.mp (show (List.range 161).all (fun a => !(zK a == (12, 38)) || (zK (a + 11) == (21, 2720) && decide (a + 11 < 161))) = true by decide +kernel) a (List.mem_range.mpr h1)
  rw [G.1] at h2
  simp at h2
  have h3 := G.2.1
  exact ⟨h2.1, by omega, by omega⟩
theorem gf_12_23 (C : zC E nn cc own Ts) {a idx : Nat} (G : zG E nn a 12 38) (hin : ∀ w ∈ u_ws RX12 TX12 38, w ∈ Ts) (hlink : Cond.fieldLink own idx "PremiumHoursModel" "inWeek" "I" ∈ Ts) (d : decode cc pc = .ok (.getfield idx, 3)) (kk : zX E k n nn v (pc + 3) lo (zi (v a 23) :: st)) : zX E k n nn v pc lo (zr a :: st) := z_getI (Cn := RX12) (T := TX12) C G (by decide) rfl hin 23 rfl (by decide) rfl hlink rfl d kk
theorem pf_12_23 (C : zC E nn cc own Ts) {a idx : Nat} {x : Int} (G : zG E nn a 12 38) (hin : ∀ w ∈ u_ws RX12 TX12 38, w ∈ Ts) (hlink : Cond.fieldLink own idx "PremiumHoursModel" "inWeek" "I" ∈ Ts) {v1 : zHp} (e : v1 = zst v a 23 x) (d : decode cc pc = .ok (.putfield idx, 3)) (kk : zX E k n nn v1 (pc + 3) lo st) : zX E k n nn v pc lo (zi x :: zr a :: st) := z_putI (jj := 23) (Cn := RX12) (T := TX12) C tyX12_ok nmX12 G (by decide) rfl hin 23 rfl (by decide) rfl hlink rfl rfl (ty := .int) (by decide +kernel) rfl rfl d (fun v2 e2 => by rw [e2, ← e]; exact kk)
theorem gl_12_24 (C : zC E nn cc own Ts) {a idx t : Nat} (G : zG E nn a 12 38) (hin : ∀ w ∈ u_ws RX12 TX12 38, w ∈ Ts) (hlink : Cond.fieldLink own idx "PremiumHoursModel" "quarters" "[I" ∈ Ts) (hv : v a 24 = (t : Int)) (d : decode cc pc = .ok (.getfield idx, 3)) (kk : zX E k n nn v (pc + 3) lo (zr t :: st)) : zX E k n nn v pc lo (zr a :: st) := z_getR (Cn := RX12) (T := TX12) C G (by decide) rfl hin 24 rfl (by decide) rfl hlink rfl hv d kk
theorem vl_12_24 {a : Nat} (ho : zEo E = 137) (hv : zV 137 24 v) (G : zG E 24 a 12 38) : v a 24 = ((a + 12 : Nat) : Int) := hv.2 a (by have := G.2.1; omega) (by have := G.2.2; omega) 24 (a + 12) (by rw [G.1]; rfl)
theorem lk_12_24 {a : Nat} (ho : zEo E = 137) (G : zG E 24 a 12 38) : zG E 24 (a + 12) 20 680 := by
  have h1 := zK_lt a (by rw [G.1]; decide)
  have h2 := List.all_eq_true.mp (show (List.range 161).all (fun a => !(zK a == (12, 38)) || (zK (a + 12) == (20, 680) && decide (a + 12 < 161))) = true by decide +kernel) a (List.mem_range.mpr h1)
  rw [G.1] at h2
  simp at h2
  have h3 := G.2.1
  exact ⟨h2.1, by omega, by omega⟩
theorem gl_12_25 (C : zC E nn cc own Ts) {a idx t : Nat} (G : zG E nn a 12 38) (hin : ∀ w ∈ u_ws RX12 TX12 38, w ∈ Ts) (hlink : Cond.fieldLink own idx "PremiumHoursModel" "may" "[I" ∈ Ts) (hv : v a 25 = (t : Int)) (d : decode cc pc = .ok (.getfield idx, 3)) (kk : zX E k n nn v (pc + 3) lo (zr t :: st)) : zX E k n nn v pc lo (zr a :: st) := z_getR (Cn := RX12) (T := TX12) C G (by decide) rfl hin 25 rfl (by decide) rfl hlink rfl hv d kk
theorem vl_12_25 {a : Nat} (ho : zEo E = 137) (hv : zV 137 24 v) (G : zG E 24 a 12 38) : v a 25 = ((a + 13 : Nat) : Int) := hv.2 a (by have := G.2.1; omega) (by have := G.2.2; omega) 25 (a + 13) (by rw [G.1]; rfl)
theorem lk_12_25 {a : Nat} (ho : zEo E = 137) (G : zG E 24 a 12 38) : zG E 24 (a + 13) 20 680 := by
  have h1 := zK_lt a (by rw [G.1]; decide)
  have h2 := List.all_eq_true.mp (show (List.range 161).all (fun a => !(zK a == (12, 38)) || (zK (a + 13) == (20, 680) && decide (a + 13 < 161))) = true by decide +kernel) a (List.mem_range.mpr h1)
  rw [G.1] at h2
  simp at h2
  have h3 := G.2.1
  exact ⟨h2.1, by omega, by omega⟩
theorem gl_12_26 (C : zC E nn cc own Ts) {a idx t : Nat} (G : zG E nn a 12 38) (hin : ∀ w ∈ u_ws RX12 TX12 38, w ∈ Ts) (hlink : Cond.fieldLink own idx "PremiumHoursModel" "best" "[I" ∈ Ts) (hv : v a 26 = (t : Int)) (d : decode cc pc = .ok (.getfield idx, 3)) (kk : zX E k n nn v (pc + 3) lo (zr t :: st)) : zX E k n nn v pc lo (zr a :: st) := z_getR (Cn := RX12) (T := TX12) C G (by decide) rfl hin 26 rfl (by decide) rfl hlink rfl hv d kk
theorem vl_12_26 {a : Nat} (ho : zEo E = 137) (hv : zV 137 24 v) (G : zG E 24 a 12 38) : v a 26 = ((a + 14 : Nat) : Int) := hv.2 a (by have := G.2.1; omega) (by have := G.2.2; omega) 26 (a + 14) (by rw [G.1]; rfl)
theorem lk_12_26 {a : Nat} (ho : zEo E = 137) (G : zG E 24 a 12 38) : zG E 24 (a + 14) 20 680 := by
  have h1 := zK_lt a (by rw [G.1]; decide)
  have h2 := List.all_eq_true.mp (show (List.range 161).all (fun a => !(zK a == (12, 38)) || (zK (a + 14) == (20, 680) && decide (a + 14 < 161))) = true by decide +kernel) a (List.mem_range.mpr h1)
  rw [G.1] at h2
  simp at h2
  have h3 := G.2.1
  exact ⟨h2.1, by omega, by omega⟩
theorem gl_12_27 (C : zC E nn cc own Ts) {a idx t : Nat} (G : zG E nn a 12 38) (hin : ∀ w ∈ u_ws RX12 TX12 38, w ∈ Ts) (hlink : Cond.fieldLink own idx "PremiumHoursModel" "comeAs" "[I" ∈ Ts) (hv : v a 27 = (t : Int)) (d : decode cc pc = .ok (.getfield idx, 3)) (kk : zX E k n nn v (pc + 3) lo (zr t :: st)) : zX E k n nn v pc lo (zr a :: st) := z_getR (Cn := RX12) (T := TX12) C G (by decide) rfl hin 27 rfl (by decide) rfl hlink rfl hv d kk
theorem vl_12_27 {a : Nat} (ho : zEo E = 137) (hv : zV 137 24 v) (G : zG E 24 a 12 38) : v a 27 = ((a + 15 : Nat) : Int) := hv.2 a (by have := G.2.1; omega) (by have := G.2.2; omega) 27 (a + 15) (by rw [G.1]; rfl)
theorem lk_12_27 {a : Nat} (ho : zEo E = 137) (G : zG E 24 a 12 38) : zG E 24 (a + 15) 20 680 := by
  have h1 := zK_lt a (by rw [G.1]; decide)
  have h2 := List.all_eq_true.mp (show (List.range 161).all (fun a => !(zK a == (12, 38)) || (zK (a + 15) == (20, 680) && decide (a + 15 < 161))) = true by decide +kernel) a (List.mem_range.mpr h1)
  rw [G.1] at h2
  simp at h2
  have h3 := G.2.1
  exact ⟨h2.1, by omega, by omega⟩
theorem gl_12_28 (C : zC E nn cc own Ts) {a idx t : Nat} (G : zG E nn a 12 38) (hin : ∀ w ∈ u_ws RX12 TX12 38, w ∈ Ts) (hlink : Cond.fieldLink own idx "PremiumHoursModel" "countAhead" "[I" ∈ Ts) (hv : v a 28 = (t : Int)) (d : decode cc pc = .ok (.getfield idx, 3)) (kk : zX E k n nn v (pc + 3) lo (zr t :: st)) : zX E k n nn v pc lo (zr a :: st) := z_getR (Cn := RX12) (T := TX12) C G (by decide) rfl hin 28 rfl (by decide) rfl hlink rfl hv d kk
theorem vl_12_28 {a : Nat} (ho : zEo E = 137) (hv : zV 137 24 v) (G : zG E 24 a 12 38) : v a 28 = ((a + 16 : Nat) : Int) := hv.2 a (by have := G.2.1; omega) (by have := G.2.2; omega) 28 (a + 16) (by rw [G.1]; rfl)
theorem lk_12_28 {a : Nat} (ho : zEo E = 137) (G : zG E 24 a 12 38) : zG E 24 (a + 16) 20 680 := by
  have h1 := zK_lt a (by rw [G.1]; decide)
  have h2 := List.all_eq_true.mp (show (List.range 161).all (fun a => !(zK a == (12, 38)) || (zK (a + 16) == (20, 680) && decide (a + 16 < 161))) = true by decide +kernel) a (List.mem_range.mpr h1)
  rw [G.1] at h2
  simp at h2
  have h3 := G.2.1
  exact ⟨h2.1, by omega, by omega⟩
theorem gl_12_29 (C : zC E nn cc own Ts) {a idx t : Nat} (G : zG E nn a 12 38) (hin : ∀ w ∈ u_ws RX12 TX12 38, w ∈ Ts) (hlink : Cond.fieldLink own idx "PremiumHoursModel" "most" "[I" ∈ Ts) (hv : v a 29 = (t : Int)) (d : decode cc pc = .ok (.getfield idx, 3)) (kk : zX E k n nn v (pc + 3) lo (zr t :: st)) : zX E k n nn v pc lo (zr a :: st) := z_getR (Cn := RX12) (T := TX12) C G (by decide) rfl hin 29 rfl (by decide) rfl hlink rfl hv d kk
theorem vl_12_29 {a : Nat} (ho : zEo E = 137) (hv : zV 137 24 v) (G : zG E 24 a 12 38) : v a 29 = ((a + 17 : Nat) : Int) := hv.2 a (by have := G.2.1; omega) (by have := G.2.2; omega) 29 (a + 17) (by rw [G.1]; rfl)
theorem lk_12_29 {a : Nat} (ho : zEo E = 137) (G : zG E 24 a 12 38) : zG E 24 (a + 17) 20 463000 := by
  have h1 := zK_lt a (by rw [G.1]; decide)
  have h2 := List.all_eq_true.mp (show (List.range 161).all (fun a => !(zK a == (12, 38)) || (zK (a + 17) == (20, 463000) && decide (a + 17 < 161))) = true by decide +kernel) a (List.mem_range.mpr h1)
  rw [G.1] at h2
  simp at h2
  have h3 := G.2.1
  exact ⟨h2.1, by omega, by omega⟩
theorem gl_12_30 (C : zC E nn cc own Ts) {a idx t : Nat} (G : zG E nn a 12 38) (hin : ∀ w ∈ u_ws RX12 TX12 38, w ∈ Ts) (hlink : Cond.fieldLink own idx "PremiumHoursModel" "weekCounts" "[I" ∈ Ts) (hv : v a 30 = (t : Int)) (d : decode cc pc = .ok (.getfield idx, 3)) (kk : zX E k n nn v (pc + 3) lo (zr t :: st)) : zX E k n nn v pc lo (zr a :: st) := z_getR (Cn := RX12) (T := TX12) C G (by decide) rfl hin 30 rfl (by decide) rfl hlink rfl hv d kk
theorem vl_12_30 {a : Nat} (ho : zEo E = 137) (hv : zV 137 24 v) (G : zG E 24 a 12 38) : v a 30 = ((a + 18 : Nat) : Int) := hv.2 a (by have := G.2.1; omega) (by have := G.2.2; omega) 30 (a + 18) (by rw [G.1]; rfl)
theorem lk_12_30 {a : Nat} (ho : zEo E = 137) (G : zG E 24 a 12 38) : zG E 24 (a + 18) 20 680 := by
  have h1 := zK_lt a (by rw [G.1]; decide)
  have h2 := List.all_eq_true.mp (show (List.range 161).all (fun a => !(zK a == (12, 38)) || (zK (a + 18) == (20, 680) && decide (a + 18 < 161))) = true by decide +kernel) a (List.mem_range.mpr h1)
  rw [G.1] at h2
  simp at h2
  have h3 := G.2.1
  exact ⟨h2.1, by omega, by omega⟩
theorem gl_12_31 (C : zC E nn cc own Ts) {a idx t : Nat} (G : zG E nn a 12 38) (hin : ∀ w ∈ u_ws RX12 TX12 38, w ∈ Ts) (hlink : Cond.fieldLink own idx "PremiumHoursModel" "weekPlain" "[I" ∈ Ts) (hv : v a 31 = (t : Int)) (d : decode cc pc = .ok (.getfield idx, 3)) (kk : zX E k n nn v (pc + 3) lo (zr t :: st)) : zX E k n nn v pc lo (zr a :: st) := z_getR (Cn := RX12) (T := TX12) C G (by decide) rfl hin 31 rfl (by decide) rfl hlink rfl hv d kk
theorem vl_12_31 {a : Nat} (ho : zEo E = 137) (hv : zV 137 24 v) (G : zG E 24 a 12 38) : v a 31 = ((a + 19 : Nat) : Int) := hv.2 a (by have := G.2.1; omega) (by have := G.2.2; omega) 31 (a + 19) (by rw [G.1]; rfl)
theorem lk_12_31 {a : Nat} (ho : zEo E = 137) (G : zG E 24 a 12 38) : zG E 24 (a + 19) 20 680 := by
  have h1 := zK_lt a (by rw [G.1]; decide)
  have h2 := List.all_eq_true.mp (show (List.range 161).all (fun a => !(zK a == (12, 38)) || (zK (a + 19) == (20, 680) && decide (a + 19 < 161))) = true by decide +kernel) a (List.mem_range.mpr h1)
  rw [G.1] at h2
  simp at h2
  have h3 := G.2.1
  exact ⟨h2.1, by omega, by omega⟩
theorem gf_12_32 (C : zC E nn cc own Ts) {a idx : Nat} (G : zG E nn a 12 38) (hin : ∀ w ∈ u_ws RX12 TX12 38, w ∈ Ts) (hlink : Cond.fieldLink own idx "PremiumHoursModel" "counted" "I" ∈ Ts) (d : decode cc pc = .ok (.getfield idx, 3)) (kk : zX E k n nn v (pc + 3) lo (zi (v a 32) :: st)) : zX E k n nn v pc lo (zr a :: st) := z_getI (Cn := RX12) (T := TX12) C G (by decide) rfl hin 32 rfl (by decide) rfl hlink rfl d kk
theorem pf_12_32 (C : zC E nn cc own Ts) {a idx : Nat} {x : Int} (G : zG E nn a 12 38) (hin : ∀ w ∈ u_ws RX12 TX12 38, w ∈ Ts) (hlink : Cond.fieldLink own idx "PremiumHoursModel" "counted" "I" ∈ Ts) {v1 : zHp} (e : v1 = zst v a 32 x) (d : decode cc pc = .ok (.putfield idx, 3)) (kk : zX E k n nn v1 (pc + 3) lo st) : zX E k n nn v pc lo (zi x :: zr a :: st) := z_putI (jj := 32) (Cn := RX12) (T := TX12) C tyX12_ok nmX12 G (by decide) rfl hin 32 rfl (by decide) rfl hlink rfl rfl (ty := .int) (by decide +kernel) rfl rfl d (fun v2 e2 => by rw [e2, ← e]; exact kk)
theorem gf_12_33 (C : zC E nn cc own Ts) {a idx : Nat} (G : zG E nn a 12 38) (hin : ∀ w ∈ u_ws RX12 TX12 38, w ∈ Ts) (hlink : Cond.fieldLink own idx "PremiumHoursModel" "countedComing" "I" ∈ Ts) (d : decode cc pc = .ok (.getfield idx, 3)) (kk : zX E k n nn v (pc + 3) lo (zi (v a 33) :: st)) : zX E k n nn v pc lo (zr a :: st) := z_getI (Cn := RX12) (T := TX12) C G (by decide) rfl hin 33 rfl (by decide) rfl hlink rfl d kk
theorem pf_12_33 (C : zC E nn cc own Ts) {a idx : Nat} {x : Int} (G : zG E nn a 12 38) (hin : ∀ w ∈ u_ws RX12 TX12 38, w ∈ Ts) (hlink : Cond.fieldLink own idx "PremiumHoursModel" "countedComing" "I" ∈ Ts) {v1 : zHp} (e : v1 = zst v a 33 x) (d : decode cc pc = .ok (.putfield idx, 3)) (kk : zX E k n nn v1 (pc + 3) lo st) : zX E k n nn v pc lo (zi x :: zr a :: st) := z_putI (jj := 33) (Cn := RX12) (T := TX12) C tyX12_ok nmX12 G (by decide) rfl hin 33 rfl (by decide) rfl hlink rfl rfl (ty := .int) (by decide +kernel) rfl rfl d (fun v2 e2 => by rw [e2, ← e]; exact kk)
theorem gl_12_34 (C : zC E nn cc own Ts) {a idx t : Nat} (G : zG E nn a 12 38) (hin : ∀ w ∈ u_ws RX12 TX12 38, w ∈ Ts) (hlink : Cond.fieldLink own idx "PremiumHoursModel" "keptWorked" "[Z" ∈ Ts) (hv : v a 34 = (t : Int)) (d : decode cc pc = .ok (.getfield idx, 3)) (kk : zX E k n nn v (pc + 3) lo (zr t :: st)) : zX E k n nn v pc lo (zr a :: st) := z_getR (Cn := RX12) (T := TX12) C G (by decide) rfl hin 34 rfl (by decide) rfl hlink rfl hv d kk
theorem vl_12_34 {a : Nat} (ho : zEo E = 137) (hv : zV 137 24 v) (G : zG E 24 a 12 38) : v a 34 = ((a + 20 : Nat) : Int) := hv.2 a (by have := G.2.1; omega) (by have := G.2.2; omega) 34 (a + 20) (by rw [G.1]; rfl)
theorem lk_12_34 {a : Nat} (ho : zEo E = 137) (G : zG E 24 a 12 38) : zG E 24 (a + 20) 21 5520 := by
  have h1 := zK_lt a (by rw [G.1]; decide)
  have h2 := List.all_eq_true.mp (show (List.range 161).all (fun a => !(zK a == (12, 38)) || (zK (a + 20) == (21, 5520) && decide (a + 20 < 161))) = true by decide +kernel) a (List.mem_range.mpr h1)
  rw [G.1] at h2
  simp at h2
  have h3 := G.2.1
  exact ⟨h2.1, by omega, by omega⟩
theorem gl_12_35 (C : zC E nn cc own Ts) {a idx t : Nat} (G : zG E nn a 12 38) (hin : ∀ w ∈ u_ws RX12 TX12 38, w ∈ Ts) (hlink : Cond.fieldLink own idx "PremiumHoursModel" "keptSum" "[I" ∈ Ts) (hv : v a 35 = (t : Int)) (d : decode cc pc = .ok (.getfield idx, 3)) (kk : zX E k n nn v (pc + 3) lo (zr t :: st)) : zX E k n nn v pc lo (zr a :: st) := z_getR (Cn := RX12) (T := TX12) C G (by decide) rfl hin 35 rfl (by decide) rfl hlink rfl hv d kk
theorem vl_12_35 {a : Nat} (ho : zEo E = 137) (hv : zV 137 24 v) (G : zG E 24 a 12 38) : v a 35 = ((a + 21 : Nat) : Int) := hv.2 a (by have := G.2.1; omega) (by have := G.2.2; omega) 35 (a + 21) (by rw [G.1]; rfl)
theorem lk_12_35 {a : Nat} (ho : zEo E = 137) (G : zG E 24 a 12 38) : zG E 24 (a + 21) 20 8 := by
  have h1 := zK_lt a (by rw [G.1]; decide)
  have h2 := List.all_eq_true.mp (show (List.range 161).all (fun a => !(zK a == (12, 38)) || (zK (a + 21) == (20, 8) && decide (a + 21 < 161))) = true by decide +kernel) a (List.mem_range.mpr h1)
  rw [G.1] at h2
  simp at h2
  have h3 := G.2.1
  exact ⟨h2.1, by omega, by omega⟩
theorem gl_12_36 (C : zC E nn cc own Ts) {a idx t : Nat} (G : zG E nn a 12 38) (hin : ∀ w ∈ u_ws RX12 TX12 38, w ∈ Ts) (hlink : Cond.fieldLink own idx "PremiumHoursModel" "isKept" "[Z" ∈ Ts) (hv : v a 36 = (t : Int)) (d : decode cc pc = .ok (.getfield idx, 3)) (kk : zX E k n nn v (pc + 3) lo (zr t :: st)) : zX E k n nn v pc lo (zr a :: st) := z_getR (Cn := RX12) (T := TX12) C G (by decide) rfl hin 36 rfl (by decide) rfl hlink rfl hv d kk
theorem vl_12_36 {a : Nat} (ho : zEo E = 137) (hv : zV 137 24 v) (G : zG E 24 a 12 38) : v a 36 = ((a + 22 : Nat) : Int) := hv.2 a (by have := G.2.1; omega) (by have := G.2.2; omega) 36 (a + 22) (by rw [G.1]; rfl)
theorem lk_12_36 {a : Nat} (ho : zEo E = 137) (G : zG E 24 a 12 38) : zG E 24 (a + 22) 21 8 := by
  have h1 := zK_lt a (by rw [G.1]; decide)
  have h2 := List.all_eq_true.mp (show (List.range 161).all (fun a => !(zK a == (12, 38)) || (zK (a + 22) == (21, 8) && decide (a + 22 < 161))) = true by decide +kernel) a (List.mem_range.mpr h1)
  rw [G.1] at h2
  simp at h2
  have h3 := G.2.1
  exact ⟨h2.1, by omega, by omega⟩
theorem gl_12_37 (C : zC E nn cc own Ts) {a idx t : Nat} (G : zG E nn a 12 38) (hin : ∀ w ∈ u_ws RX12 TX12 38, w ∈ Ts) (hlink : Cond.fieldLink own idx "PremiumHoursModel" "first" "[Z" ∈ Ts) (hv : v a 37 = (t : Int)) (d : decode cc pc = .ok (.getfield idx, 3)) (kk : zX E k n nn v (pc + 3) lo (zr t :: st)) : zX E k n nn v pc lo (zr a :: st) := z_getR (Cn := RX12) (T := TX12) C G (by decide) rfl hin 37 rfl (by decide) rfl hlink rfl hv d kk
theorem vl_12_37 {a : Nat} (ho : zEo E = 137) (hv : zV 137 24 v) (G : zG E 24 a 12 38) : v a 37 = ((a + 23 : Nat) : Int) := hv.2 a (by have := G.2.1; omega) (by have := G.2.2; omega) 37 (a + 23) (by rw [G.1]; rfl)
theorem lk_12_37 {a : Nat} (ho : zEo E = 137) (G : zG E 24 a 12 38) : zG E 24 (a + 23) 21 2720 := by
  have h1 := zK_lt a (by rw [G.1]; decide)
  have h2 := List.all_eq_true.mp (show (List.range 161).all (fun a => !(zK a == (12, 38)) || (zK (a + 23) == (21, 2720) && decide (a + 23 < 161))) = true by decide +kernel) a (List.mem_range.mpr h1)
  rw [G.1] at h2
  simp at h2
  have h3 := G.2.1
  exact ⟨h2.1, by omega, by omega⟩
theorem ge_Card {p a : Nat} {i : Int} (ho : zEo E = 0) (G : zG E 137 p 23 4) (q : 0 ≤ i ∧ i < 4) (e : a = p + (2 + 18 * i.toNat)) : zG E 137 a 1 3 := by
  have h1 := zK_lt p (by rw [G.1]; decide)
  have h2 := List.all_eq_true.mp (show (List.range 161).all (fun p => !(zK p == (23, 4)) || (List.range 4).all (fun i => zK (p + (2 + 18 * i)) == (1, 3) && decide (p + (2 + 18 * i) < 137))) = true by decide +kernel) p (List.mem_range.mpr h1)
  rw [G.1] at h2
  simp at h2
  have h3 := h2 i.toNat (by omega)
  subst e
  exact ⟨by have := h3.1; simpa using this, by omega, by omega⟩
theorem ra_Card (C : zC E 137 cc own Ts) {p a : Nat} {i : Int} (ho : zEo E = 0) (hv : zV 0 137 v) (G : zG E 137 p 23 4) (q : 0 ≤ i ∧ i < 4) (e : a = p + (2 + 18 * i.toNat)) (d : decode cc pc = .ok (.aaload, 1)) (kk : zX E k n 137 v (pc + 1) lo (zr a :: st)) : zX E k n 137 v pc lo (zi i :: zr p :: st) := by
  have hh := hv.2 p (by omega) (by have := G.2.2; omega) i.toNat a (by
    rw [G.1]
    show (if i.toNat < 4 then some (p + (2 + 18 * i.toNat)) else none) = some a
    rw [if_pos (by omega), e])
  have ei : ((i.toNat : Nat) : Int) = i := by omega
  rw [ei] at hh
  exact z_aald C G (ci := 1) (by decide) (by decide) rfl (by decide) q.1 q.2 hh d kk
theorem ge_Premium {p a : Nat} {i : Int} (ho : zEo E = 0) (G : zG E 137 p 24 8) (q : 0 ≤ i ∧ i < 8) (e : a = p + (2 + 1 * i.toNat)) : zG E 137 a 5 5 := by
  have h1 := zK_lt p (by rw [G.1]; decide)
  have h2 := List.all_eq_true.mp (show (List.range 161).all (fun p => !(zK p == (24, 8)) || (List.range 8).all (fun i => zK (p + (2 + 1 * i)) == (5, 5) && decide (p + (2 + 1 * i) < 137))) = true by decide +kernel) p (List.mem_range.mpr h1)
  rw [G.1] at h2
  simp at h2
  have h3 := h2 i.toNat (by omega)
  subst e
  exact ⟨by have := h3.1; simpa using this, by omega, by omega⟩
theorem ra_Premium (C : zC E 137 cc own Ts) {p a : Nat} {i : Int} (ho : zEo E = 0) (hv : zV 0 137 v) (G : zG E 137 p 24 8) (q : 0 ≤ i ∧ i < 8) (e : a = p + (2 + 1 * i.toNat)) (d : decode cc pc = .ok (.aaload, 1)) (kk : zX E k n 137 v (pc + 1) lo (zr a :: st)) : zX E k n 137 v pc lo (zi i :: zr p :: st) := by
  have hh := hv.2 p (by omega) (by have := G.2.2; omega) i.toNat a (by
    rw [G.1]
    show (if i.toNat < 8 then some (p + (2 + 1 * i.toNat)) else none) = some a
    rw [if_pos (by omega), e])
  have ei : ((i.toNat : Nat) : Int) = i := by omega
  rw [ei] at hh
  exact z_aald C G (ci := 5) (by decide) (by decide) rfl (by decide) q.1 q.2 hh d kk
theorem ge_Sheet {p a : Nat} {i : Int} (ho : zEo E = 0) (G : zG E 137 p 25 4) (q : 0 ≤ i ∧ i < 4) (e : a = p + (4 + 18 * i.toNat)) : zG E 137 a 8 14 := by
  have h1 := zK_lt p (by rw [G.1]; decide)
  have h2 := List.all_eq_true.mp (show (List.range 161).all (fun p => !(zK p == (25, 4)) || (List.range 4).all (fun i => zK (p + (4 + 18 * i)) == (8, 14) && decide (p + (4 + 18 * i) < 137))) = true by decide +kernel) p (List.mem_range.mpr h1)
  rw [G.1] at h2
  simp at h2
  have h3 := h2 i.toNat (by omega)
  subst e
  exact ⟨by have := h3.1; simpa using this, by omega, by omega⟩
theorem ra_Sheet (C : zC E 137 cc own Ts) {p a : Nat} {i : Int} (ho : zEo E = 0) (hv : zV 0 137 v) (G : zG E 137 p 25 4) (q : 0 ≤ i ∧ i < 4) (e : a = p + (4 + 18 * i.toNat)) (d : decode cc pc = .ok (.aaload, 1)) (kk : zX E k n 137 v (pc + 1) lo (zr a :: st)) : zX E k n 137 v pc lo (zi i :: zr p :: st) := by
  have hh := hv.2 p (by omega) (by have := G.2.2; omega) i.toNat a (by
    rw [G.1]
    show (if i.toNat < 4 then some (p + (4 + 18 * i.toNat)) else none) = some a
    rw [if_pos (by omega), e])
  have ei : ((i.toNat : Nat) : Int) = i := by omega
  rw [ei] at hh
  exact z_aald C G (ci := 8) (by decide) (by decide) rfl (by decide) q.1 q.2 hh d kk
theorem zR_ad {nn a t m : Nat} (ho : zEo E ≤ 137) (hn : nn ≤ 137) (G : zG E nn a t m) : zR (a : Int) := by
  have h1 := G.2.2
  unfold zR
  omega
end ZF
