/-! making: cells in their order; constructors. My own text, partly by program out of part 05. -/
/-- what the tables say that a call doesn't carry by itself: links among nest mates, arrays over classes -/
def zbn : List (String × Nat × MethodName × String) := [("PremiumHours", 11, ⟨"PremiumHours$Tape", "<init>", "()V"⟩, "PremiumHours"), ("PremiumHours", 18, ⟨"PremiumHours$RuleReader", "<init>", "()V"⟩, "PremiumHours"), ("PremiumHours$Rules", 11, ⟨"PremiumHours$Clock", "<init>", "()V"⟩, "PremiumHours"), ("PremiumHours$Rules", 28, ⟨"PremiumHours$Premium", "<init>", "()V"⟩, "PremiumHours"), ("PremiumHours", 45, ⟨"PremiumHours$Card", "<init>", "()V"⟩, "PremiumHours"), ("PremiumHours", 46, ⟨"PremiumHours$Sheet", "<init>", "()V"⟩, "PremiumHours"), ("PremiumHours$Sheet", 39, ⟨"PremiumHours$Pieces", "<init>", "()V"⟩, "PremiumHours"), ("PremiumHours", 49, ⟨"PremiumHours$History", "<init>", "()V"⟩, "PremiumHours"), ("PremiumHours", 64, ⟨"PremiumHours$BestWay", "<init>", "()V"⟩, "PremiumHours"), ("PremiumHours$BestWay", 13, ⟨"PremiumHours$Week", "<init>", "()V"⟩, "PremiumHours")]
def zNw (U : State) : Prop := (∀ q ∈ zbn, va_Nw (.methodLinkNest q.1 q.2.1 q.2.2.1 q.2.2.2) U) ∧ va_AO RX1 U ∧ va_AO RX5 U ∧ va_AO RX8 U
theorem zNw.warm {s U : State} (hW : s.WarmedH U.vm) (h : zNw s) : zNw U := ⟨fun q hq => va_Nw.warmM hW (h.1 q hq), h.2.1.moved hW.alike, h.2.2.1.moved hW.alike, h.2.2.2.moved hW.alike⟩
theorem zNw.call {U : State} {g : JFrame} {mk : MethodId} {a : Array Value} (h : zNw U) : zNw (U.calling g mk a) := ⟨fun q hq => va_Nw.same rfl (u := U) (U := U.calling g mk a) rfl (h.1 q hq), h.2.1.moved (u := U) (U := U.calling g mk a) (Vm.Alike.refl U.vm), h.2.2.1.moved (u := U) (U := U.calling g mk a) (Vm.Alike.refl U.vm), h.2.2.2.moved (u := U) (U := U.calling g mk a) (Vm.Alike.refl U.vm)⟩
def zCTN (l : Launch) (y : MethodName) (ws : List Cond) (rm : Room) (D : va_G) (ids : Nat → ClassId) (b o : Nat) (zz : Prop) (nn : Nat) (As : List zAV) (v : zHp) (nn1 : Nat) (Pf : Prop) (ret : Option zAV) (v1 : zHp) (mc ms : Nat) : Prop :=
  ∀ sz : Nat, Met l y ws rm (va_Pc (As.map (zxv b)) (fun U => U.heap.size = sz ∧ zWS D ids b o zz nn v U ∧ zNw U)) (zQc D ids b o zz nn nn1 Pf ret v1 sz) mc ms (zA b o nn sz)
theorem zPreN_blind {av : List Value} {sz : Nat} {D : va_G} {ids : Nat → ClassId} {b o : Nat} {zz : Prop} {nn : Nat} {v : zHp} : FrameBlind (va_Pc av (fun U => U.heap.size = sz ∧ zWS D ids b o zz nn v U ∧ zNw U)) := fun a U g mk q => by
  obtain ⟨q0, q1, q2, q3⟩ := q
  exact ⟨q0, q1, q2.moved (u := U) (U := U.calling g mk a) rfl (Vm.Alike.refl U.vm), q3.call⟩
/-- what a new cell holds -/
def zdf (t : Nat) (j : Int) : Int := if t < 20 then (if zft t j.toNat = 2 then -1 else 0) else if t < 23 then 0 else -1
def zfr (v : zHp) (a : Nat) : zHp := fun a' j => if a' = a then zdf (zK a).1 j else v a' j
/-- a heap while things are made: all fits -/
def zV0 (v : zHp) : Prop := (∀ a j, zR (v a j)) ∧ True
theorem zV0.st {v : zHp} (h : zV0 v) {a : Nat} {j x : Int} (hx : zR x) : zV0 (zst v a j x) := ⟨zst_R h.1 hx, trivial⟩
theorem zdf_R (t : Nat) (j : Int) : zR (zdf t j) := by
  unfold zdf zR
  split
  · split <;> omega
  · split <;> omega
theorem zV0.fr {v : zHp} (h : zV0 v) {a : Nat} : zV0 (zfr v a) := ⟨fun a' j => by
  unfold zfr
  split
  · exact zdf_R _ _
  · exact h.1 a' j, trivial⟩
section ZNEW
variable {E : zE} {nn : Nat} {cc : ByteArray} {own : String} {Ts : List Cond} {k n : Nat} {v : zHp} {pc : Nat} {lo : List (Option zAV)} {st stk : List zAV}
theorem zGn {a t m : Nat} (ho : zEo E = 0) (h : zK a = (t, m)) (h2 : a < nn) : zG E nn a t m := ⟨h, by omega, by omega⟩
theorem zGm {a t m : Nat} (ho : zEo E = 137) (h : zK a = (t, m)) (h1 : 137 ≤ a) (h2 : a < 137 + nn) : zG E nn a t m := ⟨h, by omega, by omega⟩
theorem zC.grow (C : zC E nn cc own Ts) (hH : (zEH E).size ≤ zEb E + (zEo E + nn)) : zC E (nn + 1) cc own Ts := by
  obtain ⟨h1, h2, h3, h4, h5, h6, h7, h8, h9⟩ := C
  refine ⟨h1, h2, h3, h4, h5, h6, h7, h8, fun i hi => ?_⟩
  by_cases h : i < nn
  · exact h9 i h
  · exact h8 _ (by omega)
theorem zC.to {m : Nat} (C : zC E nn cc own Ts) (h : nn ≤ m) (hH : (zEH E).size ≤ zEb E + (zEo E + nn)) : zC E m cc own Ts := by
  obtain ⟨h1, h2, h3, h4, h5, h6, h7, h8, h9⟩ := C
  refine ⟨h1, h2, h3, h4, h5, h6, h7, h8, fun i hi => ?_⟩
  by_cases h : i < nn
  · exact h9 i h
  · exact h8 _ (by omega)
theorem zwl_push {D : va_G} {ids : Nat → ClassId} {b o nn : Nat} {v v1 : zHp} {H H1 : Heap} (hP : va_P D vwCl (zwl ids b o nn v) H) (ho : ∀ a, a ≠ o + nn → v1 a = v a) (hk : ∀ q, q < H.size → H1[q]? = H[q]?) (he : va_at D vwCl (b + (o + nn), zec ids b (zK (o + nn)) (v1 (o + nn))) H1) : va_P D vwCl (zwl ids b o (nn + 1) v1) H1 := by
  intro j x hx
  have hj : j < nn + 1 := by
    have := (List.getElem?_eq_some_iff.mp hx).1
    rwa [zwl_len] at this
  rw [zwl_at' hj] at hx
  cases hx
  by_cases h : j = nn
  · subst h
    exact he
  · have h3 := hP j _ (zwl_at' (show j < nn by omega))
    rw [ho (o + j) (by omega)]
    exact h3.kept (hk _ h3.lt)
theorem zfr_ne {v : zHp} {a q : Nat} (h : q ≠ a) : zfr v a q = v q := by
  funext j
  simp [zfr, h]
theorem zfr_self {v : zHp} {a : Nat} {j : Int} : zfr v a a j = zdf (zK a).1 j := by simp [zfr]
theorem z_newO (C : zC E nn cc own Ts) (hz : zEz E = True) {R' : Room} (hRm : zER E = R') {ci N idx : Nat} {Cn : String} {T : u_T} (ty : Nat → FieldType) (hty : ∀ k, k < N → parseFieldDescriptor (T k).2.2.1 = some (ty k)) (hdf : ∀ j, j < N → defaultValue (ty j) = (if zft ci j = 2 then Value.null else .int 0)) (hk : zK (zEo E + nn) = (ci, N)) (hci : ci < 20) (hc : vwCl[ci]? = some (Cn, T, N)) (hin : ∀ w ∈ u_ws Cn T N, w ∈ Ts) (hcl : Cond.classLink own idx Cn ∈ Ts) (hinst : Cond.instantiable Cn N ∈ Ts) (hini : Cond.initialized Cn ∈ Ts) {k' n' : Nat} (hkn : k + 1 = k' ∧ n + N = n') (hf : k' ≤ R'.cells ∧ n' ≤ R'.slots) {a nn' : Nat} (ha : zEo E + nn = a) (hnn : nn + 1 = nn') {v1 : zHp} (e : v1 = zfr v a) (d : decode cc pc = .ok (.new idx, 3)) (kk : zX E k' n' nn' v1 (pc + 3) lo (zr a :: st)) : zX E k n nn v pc lo st := by
  subst hRm ha hnn e
  obtain ⟨rfl, rfl⟩ := hkn
  intro H locs ls hP hS hZ hl
  have hsz : H.size = zEb E + (zEo E + nn) := hZ (by rw [hz]; trivial)
  have hKn := C.2.2.2.2.1.1 ci _ hc
  refine W.newcK C.1 C.2.1 C.2.2.1 (C.2.2.2.1 _ hcl) (C.2.2.2.1 _ hinst) (C.2.2.2.1 _ hini) (g := F0 (zEm E) pc ls (st.map (zxv (zEb E)))) rfl d hf.1 hf.2 hKn.2.1 rfl fun H1 kC hkC e1 z1 o1 => ?_
  have h := kk H1 locs ls (zwl_push hP (fun a h => zfr_ne h) o1 ?_) ⟨Nat.le_trans hS.1 (by omega), fun x h1 h2 => (o1 x (Nat.lt_of_lt_of_le h1 hS.1)).trans (hS.2.1 x h1 h2), hS.2.2⟩ (fun _ => by omega) hl
  · rw [hsz]
    exact h
  · rw [hk, zec_obj hci, ← hsz]
    refine ⟨_, hc, (u_born ty C.2.2.2.1 hin hKn hkC e1 hty).to (fun j hj => ?_)⟩
    have h9 : vp_V ((List.range N).map fun j => zfv (zEb E) (zft ci j) (zfr v (zEo E + nn) (zEo E + nn) (j : Int))) j = zfv (zEb E) (zft ci j) (zfr v (zEo E + nn) (zEo E + nn) (j : Int)) := by
      unfold vp_V
      rw [List.getD_eq_getElem?_getD, zfs_at hj]
      rfl
    refine Eq.trans (hdf j hj) (Eq.trans ?_ h9.symm)
    rw [zfr_self, hk]
    unfold zdf zfv
    rw [if_pos hci, Int.toNat_natCast]
    by_cases h2 : zft ci j = 2
    · simp [h2]
    · simp [h2]
      rfl
theorem z_newA (C : zC E nn cc own Ts) (hz : zEz E = True) {R' : Room} (hRm : zER E = R') {N tg : Nat} {M : Int} {aty : ArrayType} {fty : FieldType} (htg : (tg, aty, fty) ∈ [(20, ArrayType.int, FieldType.int), (21, ArrayType.boolean, FieldType.boolean), (22, ArrayType.byte, FieldType.byte)]) (hM : (N : Int) = M) (hN : N ≤ 100000000) (hk : zK (zEo E + nn) = (tg, N)) (harr : Cond.arrayClass fty ∈ Ts) {k' n' : Nat} (hkn : k + 1 = k' ∧ n + N = n') (hf : k' ≤ R'.cells ∧ n' ≤ R'.slots) {a nn' : Nat} (ha : zEo E + nn = a) (hnn : nn + 1 = nn') {v1 : zHp} (e : v1 = zfr v a) (d : decode cc pc = .ok (.newarray aty, 2)) (kk : zX E k' n' nn' v1 (pc + 2) lo (zr a :: st)) : zX E k n nn v pc lo (zi M :: st) := by
  subst hRm ha hnn e hM
  obtain ⟨rfl, rfl⟩ := hkn
  intro H locs ls hP hS hZ hl
  have hsz : H.size = zEb E + (zEo E + nn) := hZ (by rw [hz]; trivial)
  have hR : zR (N : Int) := ⟨by omega, by omega⟩
  have e1 : ¬ zI (N : Int) < 0 := by
    rw [zI_0, zI_lt hR zR_0]
    omega
  have e2 : (zI (N : Int)).toNatClampNeg = N := by
    show (zI (N : Int)).toInt.toNat = N
    rw [show (zI (N : Int)).toInt = (N : Int) from zw_id hR]
    omega
  have hty : newarray.typeOf aty = fty ∧ componentBytes fty ≤ 4 ∧ 20 ≤ tg ∧ tg < 23 ∧ (ztys (zEi E))[tg - 20]? = some (zEi E tg, fty) ∧ defaultValue fty = .int 0 := by
    simp only [List.mem_cons, Prod.mk.injEq, List.not_mem_nil, or_false] at htg
    rcases htg with ⟨rfl, rfl, rfl⟩ | ⟨rfl, rfl, rfl⟩ | ⟨rfl, rfl, rfl⟩ <;> exact ⟨rfl, by decide, by decide, by decide, rfl, rfl⟩
  obtain ⟨t1, t2, t3, t4, t5, t6⟩ := hty
  refine va_newaK (atype := aty) (h := H.size) C.1 C.2.1 (by rw [t1]; exact C.2.2.2.1 _ harr) (g := F0 (zEm E) pc ls _) rfl d rfl e1 e2 (by rw [t1]; exact Nat.le_trans (Nat.mul_le_mul_left N t2) (by omega)) hf.1 hf.2 rfl fun H1 cA h1 h2 h3 h4 h5 => ?_
  rw [t1] at h1 h5
  have h6 : cA = zEi E tg := by
    have h7 := (C.2.2.2.2.1.2 _ _ t5).2
    simp only [List.mem_cons, Prod.mk.injEq, List.not_mem_nil, or_false] at htg
    rcases htg with ⟨rfl, rfl, rfl⟩ | ⟨rfl, rfl, rfl⟩ | ⟨rfl, rfl, rfl⟩ <;> exact Option.some.inj (h5.symm.trans h7)
  subst h6
  have h := kk H1 locs ls (zwl_push hP (fun a h => zfr_ne h) h3 ?_) ⟨Nat.le_trans hS.1 (by omega), fun x g1 g2 => (h3 x (Nat.lt_of_lt_of_le g1 hS.1)).trans (hS.2.1 x g1 g2), hS.2.2⟩ (fun _ => by omega) hl
  · rw [hsz]
    exact h
  · rw [hk, zec_arr t3 t4, ← hsz]
    show H1[H.size]? = some (vp_cell _ _)
    rw [h1, vp_cell_i, t6]
    congr 2
    funext q
    rw [zfr_self, hk]
    unfold zdf
    rw [if_neg (by omega), if_pos t4]
    rfl
theorem z_newR (C : zC E nn cc own Ts) (hz : zEz E = True) {R' : Room} (hRm : zER E = R') {N tg ci idx : Nat} {r : vw_C} {M : Int} (ht : (tg, ci) ∈ [(23, 1), (24, 5), (25, 8)]) (htg : 23 ≤ tg) (hc : vwCl[ci]? = some r) (hAO : va_AO r.1 (zEs E)) (hM : (N : Int) = M) (hN : N ≤ 1000) (hk : zK (zEo E + nn) = (tg, N)) (hcl : Cond.classLink own idx r.1 ∈ Ts) {k' n' : Nat} (hkn : k + 1 = k' ∧ n + N = n') (hf : k' ≤ R'.cells ∧ n' ≤ R'.slots) {a nn' : Nat} (ha : zEo E + nn = a) (hnn : nn + 1 = nn') {v1 : zHp} (e : v1 = zfr v a) (d : decode cc pc = .ok (.anewarray idx, 3)) (kk : zX E k' n' nn' v1 (pc + 3) lo (zr a :: st)) : zX E k n nn v pc lo (zi M :: st) := by
  subst hRm ha hnn e hM
  obtain ⟨rfl, rfl⟩ := hkn
  intro H locs ls hP hS hZ hl
  have hsz : H.size = zEb E + (zEo E + nn) := hZ (by rw [hz]; trivial)
  have hR : zR (N : Int) := ⟨by omega, by omega⟩
  have e1 : ¬ zI (N : Int) < 0 := by
    rw [zI_0, zI_lt hR zR_0]
    omega
  have e2 : (zI (N : Int)).toNatClampNeg = N := by
    show (zI (N : Int)).toInt.toNat = N
    rw [show (zI (N : Int)).toInt = (N : Int) from zw_id hR]
    omega
  refine W.anew C.1 C.2.1 C.2.2.1 (C.2.2.2.1 _ hcl) (va_AO.use hAO) (g := F0 (zEm E) pc ls _) rfl d rfl e1 (by rw [e2]; omega) hf.1 (by rw [e2]; exact hf.2) fun cA kA comp f1 f2 f3 f4 => ?_
  rw [e2]
  have h6 : cA = zEi E tg := by
    obtain ⟨_, _, g1, g2, g3, g4⟩ := (C.2.2.2.2.1.2 _ _ (ztys_r (ids := zEi E) ht hc)).2
    exact Option.some.inj (f1.symm.trans g4)
  subst h6
  generalize hH1 : H.push ({ cls := zEi E tg, slots := Array.replicate N .null, vm := .none } : Cell) = H1
  have z1 : H1.size = H.size + 1 := by rw [← hH1, Array.size_push]
  have e3 : H1[H.size]? = some (arrV (zEi E tg) N (fun _ => .null)) := by rw [← hH1, Array.getElem?_push_size, ← arrV_new]
  have o1 : ∀ q : Nat, q < H.size → H1[q]? = H[q]? := fun q hq => by rw [← hH1, Array.getElem?_push, if_neg (Nat.ne_of_lt hq)]
  have h := kk H1 locs ls (zwl_push hP (fun a h => zfr_ne h) o1 ?_) ⟨Nat.le_trans hS.1 (by omega), fun x g1 g2 => (o1 x (Nat.lt_of_lt_of_le g1 hS.1)).trans (hS.2.1 x g1 g2), hS.2.2⟩ (fun _ => by omega) hl
  · rw [hsz]
    exact h
  · rw [hk, zec_rarr htg, ← hsz]
    show H1[H.size]? = some (vp_cell _ _)
    rw [e3, vp_cell_q]
    congr 2
    funext q
    have h9 : zdf (tg, N).1 (q : Int) = -1 := by
      unfold zdf
      rw [if_neg (show ¬ (tg, N).1 < 20 by show ¬ tg < 20; omega), if_neg (show ¬ (tg, N).1 < 23 by show ¬ tg < 23; omega)]
    rw [zfr_self, hk, h9]
    rfl
theorem z_aast (C : zC E nn cc own Ts) {a t tg ci m N : Nat} {r : vw_C} {i M : Int} (G : zG E nn a tg N) (Gt : zG E nn t ci m) (hci : ci < 20) (ht : (tg, ci) ∈ [(23, 1), (24, 5), (25, 8)]) (htg : 23 ≤ tg) (hc : vwCl[ci]? = some r) (hM : (N : Int) = M) (hN : N ≤ 2147483647) (q : 0 ≤ i ∧ i < M) {v1 : zHp} (e : v1 = zst v a i (t : Int)) (d : decode cc pc = .ok (.aastore, 1)) (kk : zX E k n nn v1 (pc + 1) lo st) : zX E k n nn v pc lo (zr t :: zi i :: zr a :: st) := by
  subst e
  obtain ⟨hk, h1, h2⟩ := id G
  obtain ⟨hk2, h12, h22⟩ := id Gt
  intro H locs ls hP hS hZ hl
  obtain ⟨hin, ec, ei⟩ := zin q.1 (by rw [hM]; exact q.2) hN
  have hD : va_D (zEA E) (zwl (zEi E) (zEb E) (zEo E) nn v) := zwl_D C.2.2.2.2.2.2.2.2
  have ha : (zwl (zEi E) (zEb E) (zEo E) nn v)[a - zEo E]? = some (zEb E + a, .inl (zEi E tg, N, .inr (.inr (.inr (.inr fun j : Nat => if v a (j : Int) < 0 then none else some (zEb E + (v a (j : Int)).toNat)))))) := by rw [zwl_at h1 h2, hk, zec_rarr htg]
  have hv : (zwl (zEi E) (zEb E) (zEo E) nn v)[t - zEo E]? = some (zEb E + t, .inr (ci, (List.range m).map fun j => zfv (zEb E) (zft ci j) (v t (j : Int)))) := by rw [zwl_at h12 h22, hk2, zec_obj hci]
  have hlt : (zI i).toNatClampNeg < N := by rw [ec]; omega
  have h0 : ¬ zI i < 0 := fun z => hin (Or.inl z)
  obtain ⟨r', hr', cellV, g1, g2, g3, -⟩ := hP (t - zEo E) _ hv
  have hcls := (C.2.2.2.2.1.1 ci r hc).2
  obtain ⟨kA, comp, k1, k2, k3, -⟩ := (C.2.2.2.2.1.2 _ _ (ztys_r (ids := zEi E) ht hc)).2
  have hcomp : comp = (zED E).1 ci := Option.some.inj (k3.symm.trans hcls.1)
  subst hcomp
  obtain ⟨kC, hkC, -⟩ := hcls.2
  refine W.aast C.1 C.2.1 (hP (a - zEo E) _ ha) (fun q h => by cases h) (fun h => by cases h) k1 k2 rfl hkC ⟨h0, by show _ < (arrV _ _ _).slots.size; rw [arrV_size]; exact hlt⟩ g1 (fun q h => by rw [g3] at h; cases h) (by rw [g2]; exact hkC) (by rw [g2]; exact va_assign hcls) rfl rfl d fun H1 e1 z oq => ?_
  refine kk H1 _ ls ?_ (hS.put z oq (hD.2 (a - zEo E) _ ha)) (fun y => by rw [z]; exact hZ y) hl
  have hset : (zwl (zEi E) (zEb E) (zEo E) nn v).set (a - zEo E) (zEb E + a, .inl (zEi E tg, N, .inr (.inr (.inr (.inr (va_up (fun j : Nat => if v a (j : Int) < 0 then none else some (zEb E + (v a (j : Int)).toNat)) i.toNat (some (zEb E + t)))))))) = zwl (zEi E) (zEb E) (zEo E) nn (zst v a i (t : Int)) := by
    refine zwl_set h1 h2 ?_ (fun q hq => zst_ne hq)
    rw [hk, zec_rarr htg]
    refine congrArg (fun g => (Sum.inl (zEi E tg, N, Sum.inr (Sum.inr (Sum.inr (Sum.inr g)))) : va_E)) ?_
    funext j
    unfold va_up
    by_cases hj : j = i.toNat
    · subst hj
      have h9 : ¬ (t : Int) < 0 := by omega
      rw [if_pos rfl, ei, zst_self, if_neg h9, Int.toNat_natCast]
    · have : ¬ (j : Int) = i := by omega
      rw [if_neg hj, zst_slot this]
  rw [← hset]
  refine hP.set hD ha ?_ oq
  show H1[zEb E + a]? = some (vp_cell _ _)
  rw [e1, vp_cell_q, vp_cell_q, arrV_store, ec]
  congr 2
  funext q
  by_cases hq : q = i.toNat
  · subst hq
    simp [updV, va_up, va_rf]
  · simp [updV, va_up, hq]
theorem z_objInit (C : zC E nn cc own Ts) {R' : Room} (hRm : zER E = R') {idx a : Nat} (hl1 : Cond.methodLink own idx objectInit ∈ Ts) (hl2 : Cond.instanceMethod objectInit ∈ Ts) (hl3 : Cond.code objectInit ⟨#[0xb1]⟩ 1 none ∈ Ts) (hR : 1 ≤ R'.frames ∧ st.length + 12 ≤ R'.locals) (d : decode cc pc = .ok (.invokespecial idx, 3)) (kk : zX E k n nn v (pc + 3) lo st) : zX E k n nn v pc lo (zr a :: st) := by
  subst hRm
  intro H locs ls hP hS hZ hl
  have e : ∀ l : List zAV, ((l.map (zxv (zEb E))).map fun v => v.category).sum = l.length := by
    intro l
    induction l with
    | nil => rfl
    | cons x t ih => simp only [List.map_cons, List.sum_cons, List.length_cons, zxv_cat, ih]; omega
  refine W.objInit C.1 C.2.1 C.2.2.1 (C.2.2.2.1 _ hl1) (C.2.2.2.1 _ hl2) (C.2.2.2.1 _ hl3) (g := F0 (zEm E) pc ls _) rfl (hl.1.trans C.2.2.2.2.2.2.1.symm) rfl d hR.1 (by show 2 * 0 + _ + 12 ≤ _; rw [e]; omega) ?_
  exact kk H locs ls hP hS hZ hl
theorem zMetN {l : Launch} {y : MethodName} {ws' ws : List Cond} {rm : Room} {D : va_G} {ids : Nat → ClassId} {b o : Nat} {zz : Prop} {As : List zAV} {nn1 : Nat} {Pf : Prop} {ret : Option zAV} {v1 : zHp} {mc ms maxL : Nat} {ret' : Option FieldType} (hy : plainName y.cls = true) (hw : ws = .code y cc maxL ret' :: ws') (hlen : As.length ≤ maxL) (hown : y.cls = own)
    (body : ∀ E : zE, zEl E = l → zER E = rm → zED E = D → zEi E = ids → zEb E = b → zEo E = o → zEz E = zz → zEN E = maxL → zC E nn cc own ws → zNw (zEs E) ∧ zEH E = (zEs E).heap ∧ (zz → (zEH E).size = zEb E + (zEo E + nn)) → (zEme E).name = y.name → zRet E cc mc ms nn1 ret' Pf ret v1 → zX E 0 0 nn v 0 (As.map some ++ List.replicate (maxL - As.length) none) []) : zCTN l y ws rm D ids b o zz nn As v nn1 Pf ret v1 mc ms := by
  subst hown
  intro sz
  refine Met.ofW (cc := cc) (maxL := maxL) (ret := ret') hy hw ?_
  intro p e s m args below meth c s₁ B hml hv
  obtain ⟨rfl, hsz, ⟨hP, hK, hZ⟩, hZs⟩ := hv
  have hx := B.exec
  have hb := B.bytes
  have hr := B.returns
  have hts := atoms_spec (ws := ws) B.pre
  have hownc : s.vm.findClass y.cls = some m.cls := findClass_of_methodNamed B.named
  have hlocks := B.notSynchronized
  have hl := lv_entry (As.map (zxv b)) (n := maxL) (by rw [lg_sl_len]; exact hlen)
  rw [lg_entry_eq]
  generalize (lg_sl (As.map (zxv b)) ++ List.replicate (maxL - (lg_sl (As.map (zxv b))).length) Slot.unset).toArray = ls at hl ⊢
  have hA : ∀ q : Nat, s.heap.size ≤ q → zA b o nn sz q := fun q h => Or.inr (by rw [← hsz]; exact h)
  have hAn : ∀ i, i < nn → zA b o nn sz (b + (o + i)) := fun i h => Or.inl ⟨by omega, by omega⟩
  refine body ((p, l, e, rm, s), (m, (As.map (zxv b)).toArray, below, meth, c), (D, ids, b, o, zz), (s.heap, zA b o nn sz, maxL, MQ below (zQc D ids b o zz nn nn1 Pf ret v1 sz) (As.map (zxv b)).toArray s mc ms (zA b o nn sz))) rfl rfl rfl rfl rfl rfl rfl rfl ⟨hx, hb, hownc, hts, hK, hlocks, hml, hA, hAn⟩ ⟨hZs, rfl, hZ⟩ (name_of_methodNamed B.named B.method).1 ?_ s.heap [] ls hP va_S.rf hZ ⟨hl.1, hl.2.1, fun q hq => ?_⟩
  · refine ⟨fun pc lo r ty hpf e1 e2 hn hd => ?_, fun pc lo hpf e1 e2 hd => ?_, fun pc lo a nm hpf e1 e2 hd => ?_⟩
    · subst e1
      intro H locs ls hP1 hS1 hZ1 hl1
      show W p l e rm s m (As.map (zxv b)).toArray below meth c H locs mc ms (MQ below (zQc D ids b o zz nn nn1 Pf _ v1 sz) (As.map (zxv b)).toArray s mc ms (zA b o nn sz)) (F0 m pc ls [.int (zI r)])
      exact W.zret (v := zI r) hx hb (hr.trans e2) hn (fun t ht hW => ⟨⟨hpf, rfl, by rw [ht]; exact hP1, va_K.moved hW.alike hK, fun z => by rw [ht]; exact hZ1 z⟩, hS1.F ht⟩) hS1.2.2 hd
    · subst e1
      intro H locs ls hP1 hS1 hZ1 hl1
      show W p l e rm s m (As.map (zxv b)).toArray below meth c H locs mc ms (MQ below (zQc D ids b o zz nn nn1 Pf _ v1 sz) (As.map (zxv b)).toArray s mc ms (zA b o nn sz)) (F0 m pc ls [])
      exact W.vret hx hb (hr.trans e2) (fun t ht hW => ⟨⟨hpf, rfl, by rw [ht]; exact hP1, va_K.moved hW.alike hK, fun z => by rw [ht]; exact hZ1 z⟩, hS1.F ht⟩) hS1.2.2 hd
    · subst e1
      intro H locs ls hP1 hS1 hZ1 hl1
      show W p l e rm s m (As.map (zxv b)).toArray below meth c H locs mc ms (MQ below (zQc D ids b o zz nn nn1 Pf _ v1 sz) (As.map (zxv b)).toArray s mc ms (zA b o nn sz)) (F0 m pc ls [.ref (b + a)])
      exact W.aret (v := .ref (b + a)) hx hb (hr.trans e2) (Or.inl ⟨nm, rfl⟩) (Or.inr ⟨_, rfl⟩) (fun t ht hW => ⟨⟨hpf, rfl, by rw [ht]; exact hP1, va_K.moved hW.alike hK, fun z => by rw [ht]; exact hZ1 z⟩, hS1.F ht⟩) hS1.2.2 hd
  · obtain ⟨x, h1, h2⟩ := zpr_mem.mp hq
    have h3 := zpr_args (b := b) As 0 (maxL - As.length) q x h1 h2
    rw [Nat.zero_add] at h3
    exact hl.2.2 q h3
theorem zc_I (C : zC E nn cc own Ts) {o : Nat} {zz : Prop} {R' : Room} (hNw : zNw (zEs E)) (ho : zEo E = o) (hz : zEz E = zz) (hRm : zER E = R') {y : MethodName} {wsy ws' : List Cond} {rm : Room} {a idx nA maxL mc ms nn1 : Nat} {Cn : String} {bytes : ByteArray} {As : List zAV} {Pf : Prop} {v1 : zHp}
    (M : zCTN (zEl E) y wsy rm (zED E) (zEi E) (zEb E) o zz nn (zr a :: As) v nn1 Pf none v1 mc ms) (hG : GoodIn Ts wsy) (hw : wsy = .code y bytes maxL none :: ws') (hini : Cond.initialized y.cls ∈ Ts) (hlk : (own, idx, y, "PremiumHours") ∈ zbn) (hinst : Cond.instanceMethod y ∈ Ts) (hnm : y.name = "<init>")
    (hd : y.cls = Cn ∧ y.cls ≠ "java/lang/invoke/MethodHandle" ∧ y.cls ≠ "java/lang/invoke/VarHandle" ∧ (parseMethodDescriptor y.desc).map (fun d => d.parameters.length) = some nA) (hn : As.length = nA) (hR : (rm.cells = mc ∧ rm.slots = ms) ∧ (rm.frames + 1 ≤ R'.frames ∧ 8 + (maxL + 11) + rm.locals ≤ R'.locals) ∧ (k + mc ≤ R'.cells ∧ n + ms ≤ R'.slots)) (hst : stk = As.reverse ++ zr a :: st) (hl8 : st.length ≤ 8) (d : decode cc pc = .ok (.invokespecial idx, 3))
    (kk : Pf → zX E (k + mc) (n + ms) nn1 v1 (pc + 3) lo st) : zX E k n nn v pc lo stk := by
  subst ho hz hRm hst
  intro H locs ls hP hS hZ hl
  obtain ⟨hx, hb, hown, hts, hK, hlocks, hml, hA, hAn⟩ := id C
  have hcat : ((st.map (zxv (zEb E))).map fun v => v.category).sum ≤ 8 := by
    have e : ∀ l : List zAV, ((l.map (zxv (zEb E))).map fun v => v.category).sum = l.length := by
      intro l
      induction l with
      | nil => rfl
      | cons x t ih => simp only [List.map_cons, List.sum_cons, List.length_cons, zxv_cat, ih]; omega
    rw [e]; exact hl8
  have hmap : (As.reverse ++ zr a :: st).map (zxv (zEb E)) = (As.map (zxv (zEb E))).reverse ++ .ref (zEb E + a) :: st.map (zxv (zEb E)) := by simp [zxv]
  rw [hmap]
  refine z_after (sz := H.size) (ret := none) (a := (Value.ref (zEb E + a) :: As.map (zxv (zEb E))).toArray) rfl C hS hl (va_runIN ⟨hx, hb, hml, hown, hts⟩ (M H.size) ⟨va_cnB nA hts hG hw hR.1.1 hR.1.2 (hNw.1 _ hlk) (hts _ hini) hd.2 hR.2.1, hnm, hts _ hinst⟩ ⟨zPreN_blind, fun U hU hW => ⟨rfl, by rw [hU], ⟨by rw [hU]; exact hP, va_K.moved hW.alike hK, fun z => by rw [hU]; exact hZ z⟩, hNw.warm hW⟩⟩ rfl (by simpa using hn) hl.1 rfl (lv_room hcat) d hR.2.2) kk
theorem zc_IP (C : zC E nn cc own Ts) {o : Nat} {zz : Prop} {R' : Room} (hNw : zNw (zEs E)) (ho : zEo E = o) (hz : zEz E = zz) (hRm : zER E = R') {y : MethodName} {wsy ws' : List Cond} {rm : Room} {a idx nA maxL mc ms nn1 : Nat} {Cn : String} {bytes : ByteArray} {As : List zAV} {Pf : Prop} {v1 : zHp}
    (M : zCTN (zEl E) y wsy rm (zED E) (zEi E) (zEb E) o zz nn (zr a :: As) v nn1 Pf none v1 mc ms) (hG : GoodIn Ts wsy) (hw : wsy = .code y bytes maxL none :: ws') (hini : Cond.initialized y.cls ∈ Ts) (hlk : Cond.methodLink own idx y ∈ Ts) (hinst : Cond.instanceMethod y ∈ Ts) (hnm : y.name = "<init>")
    (hd : y.cls = Cn ∧ y.cls ≠ "java/lang/invoke/MethodHandle" ∧ y.cls ≠ "java/lang/invoke/VarHandle" ∧ (parseMethodDescriptor y.desc).map (fun d => d.parameters.length) = some nA) (hn : As.length = nA) (hR : (rm.cells = mc ∧ rm.slots = ms) ∧ (rm.frames + 1 ≤ R'.frames ∧ 8 + (maxL + 11) + rm.locals ≤ R'.locals) ∧ (k + mc ≤ R'.cells ∧ n + ms ≤ R'.slots)) (hst : stk = As.reverse ++ zr a :: st) (hl8 : st.length ≤ 8) (d : decode cc pc = .ok (.invokespecial idx, 3))
    (kk : Pf → zX E (k + mc) (n + ms) nn1 v1 (pc + 3) lo st) : zX E k n nn v pc lo stk := by
  subst ho hz hRm hst
  intro H locs ls hP hS hZ hl
  obtain ⟨hx, hb, hown, hts, hK, hlocks, hml, hA, hAn⟩ := id C
  have hcat : ((st.map (zxv (zEb E))).map fun v => v.category).sum ≤ 8 := by
    have e : ∀ l : List zAV, ((l.map (zxv (zEb E))).map fun v => v.category).sum = l.length := by
      intro l
      induction l with
      | nil => rfl
      | cons x t ih => simp only [List.map_cons, List.sum_cons, List.length_cons, zxv_cat, ih]; omega
    rw [e]; exact hl8
  have hmap : (As.reverse ++ zr a :: st).map (zxv (zEb E)) = (As.map (zxv (zEb E))).reverse ++ .ref (zEb E + a) :: st.map (zxv (zEb E)) := by simp [zxv]
  rw [hmap]
  refine z_after (sz := H.size) (ret := none) (a := (Value.ref (zEb E + a) :: As.map (zxv (zEb E))).toArray) rfl C hS hl (va_runI ⟨hx, hb, hml, hown, hts⟩ (M H.size) (cwI nA hts hG hw hR.1.1 hR.1.2 (hts _ hini) (hts _ hlk) (hts _ hinst) hnm hd.2 hR.2.1) ⟨zPreN_blind, fun U hU hW => ⟨rfl, by rw [hU], ⟨by rw [hU]; exact hP, va_K.moved hW.alike hK, fun z => by rw [hU]; exact hZ z⟩, hNw.warm hW⟩⟩ rfl (by simpa using hn) hl.1 rfl (lv_room hcat) d hR.2.2) kk
theorem zc_VN (C : zC E nn cc own Ts) {o : Nat} {zz : Prop} {R' : Room} (hNw : zNw (zEs E)) (ho : zEo E = o) (hz : zEz E = zz) (hRm : zER E = R') {y : MethodName} {wsy ws' : List Cond} {rm : Room} {a ci N idx nA maxL mc ms nn1 : Nat} {Cn : String} {T : u_T} {bytes : ByteArray} {ret' : Option FieldType} {As : List zAV} {Pf : Prop} {ret : Option zAV} {v1 : zHp}
    (M : zCTN (zEl E) y wsy rm (zED E) (zEi E) (zEb E) o zz nn (zr a :: As) v nn1 Pf ret v1 mc ms) (G : zG E nn a ci N) (hci : ci < 20) (hc : vwCl[ci]? = some (Cn, T, N)) (hG : GoodIn Ts (wsV own idx Cn y wsy)) (hw : wsy = .code y bytes maxL ret' :: ws')
    (hd : y.cls = Cn ∧ y.cls ≠ "java/lang/invoke/MethodHandle" ∧ y.cls ≠ "java/lang/invoke/VarHandle" ∧ (parseMethodDescriptor y.desc).map (fun d => d.parameters.length) = some nA) (hn : As.length = nA) (hR : (rm.cells = mc ∧ rm.slots = ms) ∧ (rm.frames + 1 ≤ R'.frames ∧ 8 + (maxL + 11) + rm.locals ≤ R'.locals) ∧ (k + mc ≤ R'.cells ∧ n + ms ≤ R'.slots)) (hst : stk = As.reverse ++ zr a :: st) (hl8 : st.length ≤ 8) (d : decode cc pc = .ok (.invokevirtual idx, 3))
    (kk : Pf → zX E (k + mc) (n + ms) nn1 v1 (pc + 3) lo (ret.toList ++ st)) : zX E k n nn v pc lo stk := by
  subst ho hz hRm hst
  obtain ⟨hk, h1, h2⟩ := id G
  intro H locs ls hP hS hZ hl
  obtain ⟨hx, hb, hown, hts, hK, hlocks, hml, hA, hAn⟩ := id C
  have hcat : ((st.map (zxv (zEb E))).map fun v => v.category).sum ≤ 8 := by
    have e : ∀ l : List zAV, ((l.map (zxv (zEb E))).map fun v => v.category).sum = l.length := by
      intro l
      induction l with
      | nil => rfl
      | cons x t ih => simp only [List.map_cons, List.sum_cons, List.length_cons, zxv_cat, ih]; omega
    rw [e]; exact hl8
  have hmap : (As.reverse ++ zr a :: st).map (zxv (zEb E)) = (As.map (zxv (zEb E))).reverse ++ .ref (zEb E + a) :: st.map (zxv (zEb E)) := by simp [zxv]
  rw [hmap]
  refine z_after (sz := H.size) (a := (Value.ref (zEb E + a) :: As.map (zxv (zEb E))).toArray) rfl C hS hl (va_runV ⟨hx, hb, hml, hown, hts⟩ (M H.size) (cwV nA hts hG hw hR.1.1 hR.1.2 hd hR.2.1) ⟨zPreN_blind, va_recv hK hP hc (q0 := a - zEo E) (by rw [zwl_at h1 h2, hk, zec_obj hci]), fun U hU hW => ⟨rfl, by rw [hU], ⟨by rw [hU]; exact hP, va_K.moved hW.alike hK, fun z => by rw [hU]; exact hZ z⟩, hNw.warm hW⟩⟩ rfl (by simpa using hn) hl.1 rfl (lv_room hcat) d hR.2.2) kk
theorem df_0 : ∀ j, j < 9 → defaultValue (tyX0 j) = (if zft 0 j = 2 then Value.null else .int 0) := by decide +kernel
theorem df_1 : ∀ j, j < 3 → defaultValue (tyX1 j) = (if zft 1 j = 2 then Value.null else .int 0) := by decide +kernel
theorem kx_1_1 {a : Nat} (h : zK a = (1, 3)) : zK (a + 1) = (20, 60) := by
  have h1 := zK_lt a (by rw [h]; decide)
  have h2 := List.all_eq_true.mp (show (List.range 161).all (fun a => !(zK a == (1, 3)) || zK (a + 1) == (20, 60)) = true by decide +kernel) a (List.mem_range.mpr h1)
  rw [h] at h2
  simpa using h2
theorem kx_1_2 {a : Nat} (h : zK a = (1, 3)) : zK (a + 2) = (20, 60) := by
  have h1 := zK_lt a (by rw [h]; decide)
  have h2 := List.all_eq_true.mp (show (List.range 161).all (fun a => !(zK a == (1, 3)) || zK (a + 2) == (20, 60)) = true by decide +kernel) a (List.mem_range.mpr h1)
  rw [h] at h2
  simpa using h2
theorem df_2 : ∀ j, j < 5 → defaultValue (tyX2 j) = (if zft 2 j = 2 then Value.null else .int 0) := by decide +kernel
theorem df_3 : ∀ j, j < 5 → defaultValue (tyX3 j) = (if zft 3 j = 2 then Value.null else .int 0) := by decide +kernel
theorem df_4 : ∀ j, j < 3 → defaultValue (tyX4 j) = (if zft 4 j = 2 then Value.null else .int 0) := by decide +kernel
theorem kx_4_1 {a : Nat} (h : zK a = (4, 3)) : zK (a + 1) = (20, 60) := by
  have h1 := zK_lt a (by rw [h]; decide)
  have h2 := List.all_eq_true.mp (show (List.range 161).all (fun a => !(zK a == (4, 3)) || zK (a + 1) == (20, 60)) = true by decide +kernel) a (List.mem_range.mpr h1)
  rw [h] at h2
  simpa using h2
theorem kx_4_2 {a : Nat} (h : zK a = (4, 3)) : zK (a + 2) = (20, 60) := by
  have h1 := zK_lt a (by rw [h]; decide)
  have h2 := List.all_eq_true.mp (show (List.range 161).all (fun a => !(zK a == (4, 3)) || zK (a + 2) == (20, 60)) = true by decide +kernel) a (List.mem_range.mpr h1)
  rw [h] at h2
  simpa using h2
theorem df_5 : ∀ j, j < 5 → defaultValue (tyX5 j) = (if zft 5 j = 2 then Value.null else .int 0) := by decide +kernel
theorem df_6 : ∀ j, j < 2 → defaultValue (tyX6 j) = (if zft 6 j = 2 then Value.null else .int 0) := by decide +kernel
theorem df_7 : ∀ j, j < 10 → defaultValue (tyX7 j) = (if zft 7 j = 2 then Value.null else .int 0) := by decide +kernel
theorem kx_7_1 {a : Nat} (h : zK a = (7, 10)) : zK (a + 1) = (2, 5) := by
  have h1 := zK_lt a (by rw [h]; decide)
  have h2 := List.all_eq_true.mp (show (List.range 161).all (fun a => !(zK a == (7, 10)) || zK (a + 1) == (2, 5)) = true by decide +kernel) a (List.mem_range.mpr h1)
  rw [h] at h2
  simpa using h2
theorem kx_7_2 {a : Nat} (h : zK a = (7, 10)) : zK (a + 2) = (24, 8) := by
  have h1 := zK_lt a (by rw [h]; decide)
  have h2 := List.all_eq_true.mp (show (List.range 161).all (fun a => !(zK a == (7, 10)) || zK (a + 2) == (24, 8)) = true by decide +kernel) a (List.mem_range.mpr h1)
  rw [h] at h2
  simpa using h2
theorem kx_7_3 {a : Nat} (h : zK a = (7, 10)) : zK (a + 3) = (20, 4) := by
  have h1 := zK_lt a (by rw [h]; decide)
  have h2 := List.all_eq_true.mp (show (List.range 161).all (fun a => !(zK a == (7, 10)) || zK (a + 3) == (20, 4)) = true by decide +kernel) a (List.mem_range.mpr h1)
  rw [h] at h2
  simpa using h2
theorem kx_7_4 {a : Nat} (h : zK a = (7, 10)) : zK (a + 4) = (5, 5) := by
  have h1 := zK_lt a (by rw [h]; decide)
  have h2 := List.all_eq_true.mp (show (List.range 161).all (fun a => !(zK a == (7, 10)) || zK (a + 4) == (5, 5)) = true by decide +kernel) a (List.mem_range.mpr h1)
  rw [h] at h2
  simpa using h2
theorem kx_7_5 {a : Nat} (h : zK a = (7, 10)) : zK (a + 5) = (5, 5) := by
  have h1 := zK_lt a (by rw [h]; decide)
  have h2 := List.all_eq_true.mp (show (List.range 161).all (fun a => !(zK a == (7, 10)) || zK (a + 5) == (5, 5)) = true by decide +kernel) a (List.mem_range.mpr h1)
  rw [h] at h2
  simpa using h2
theorem kx_7_6 {a : Nat} (h : zK a = (7, 10)) : zK (a + 6) = (5, 5) := by
  have h1 := zK_lt a (by rw [h]; decide)
  have h2 := List.all_eq_true.mp (show (List.range 161).all (fun a => !(zK a == (7, 10)) || zK (a + 6) == (5, 5)) = true by decide +kernel) a (List.mem_range.mpr h1)
  rw [h] at h2
  simpa using h2
theorem kx_7_7 {a : Nat} (h : zK a = (7, 10)) : zK (a + 7) = (5, 5) := by
  have h1 := zK_lt a (by rw [h]; decide)
  have h2 := List.all_eq_true.mp (show (List.range 161).all (fun a => !(zK a == (7, 10)) || zK (a + 7) == (5, 5)) = true by decide +kernel) a (List.mem_range.mpr h1)
  rw [h] at h2
  simpa using h2
theorem kx_7_8 {a : Nat} (h : zK a = (7, 10)) : zK (a + 8) = (5, 5) := by
  have h1 := zK_lt a (by rw [h]; decide)
  have h2 := List.all_eq_true.mp (show (List.range 161).all (fun a => !(zK a == (7, 10)) || zK (a + 8) == (5, 5)) = true by decide +kernel) a (List.mem_range.mpr h1)
  rw [h] at h2
  simpa using h2
theorem kx_7_9 {a : Nat} (h : zK a = (7, 10)) : zK (a + 9) = (5, 5) := by
  have h1 := zK_lt a (by rw [h]; decide)
  have h2 := List.all_eq_true.mp (show (List.range 161).all (fun a => !(zK a == (7, 10)) || zK (a + 9) == (5, 5)) = true by decide +kernel) a (List.mem_range.mpr h1)
  rw [h] at h2
  simpa using h2
theorem kx_7_10 {a : Nat} (h : zK a = (7, 10)) : zK (a + 10) = (5, 5) := by
  have h1 := zK_lt a (by rw [h]; decide)
  have h2 := List.all_eq_true.mp (show (List.range 161).all (fun a => !(zK a == (7, 10)) || zK (a + 10) == (5, 5)) = true by decide +kernel) a (List.mem_range.mpr h1)
  rw [h] at h2
  simpa using h2
theorem kx_7_11 {a : Nat} (h : zK a = (7, 10)) : zK (a + 11) = (5, 5) := by
  have h1 := zK_lt a (by rw [h]; decide)
  have h2 := List.all_eq_true.mp (show (List.range 161).all (fun a => !(zK a == (7, 10)) || zK (a + 11) == (5, 5)) = true by decide +kernel) a (List.mem_range.mpr h1)
  rw [h] at h2
  simpa using h2
theorem df_8 : ∀ j, j < 14 → defaultValue (tyX8 j) = (if zft 8 j = 2 then Value.null else .int 0) := by decide +kernel
theorem kx_8_1 {a : Nat} (h : zK a = (8, 14)) : zK (a + 1) = (20, 60) := by
  have h1 := zK_lt a (by rw [h]; decide)
  have h2 := List.all_eq_true.mp (show (List.range 161).all (fun a => !(zK a == (8, 14)) || zK (a + 1) == (20, 60)) = true by decide +kernel) a (List.mem_range.mpr h1)
  rw [h] at h2
  simpa using h2
theorem kx_8_2 {a : Nat} (h : zK a = (8, 14)) : zK (a + 2) = (20, 30) := by
  have h1 := zK_lt a (by rw [h]; decide)
  have h2 := List.all_eq_true.mp (show (List.range 161).all (fun a => !(zK a == (8, 14)) || zK (a + 2) == (20, 30)) = true by decide +kernel) a (List.mem_range.mpr h1)
  rw [h] at h2
  simpa using h2
theorem kx_8_3 {a : Nat} (h : zK a = (8, 14)) : zK (a + 3) = (20, 30) := by
  have h1 := zK_lt a (by rw [h]; decide)
  have h2 := List.all_eq_true.mp (show (List.range 161).all (fun a => !(zK a == (8, 14)) || zK (a + 3) == (20, 30)) = true by decide +kernel) a (List.mem_range.mpr h1)
  rw [h] at h2
  simpa using h2
theorem kx_8_4 {a : Nat} (h : zK a = (8, 14)) : zK (a + 4) = (20, 30) := by
  have h1 := zK_lt a (by rw [h]; decide)
  have h2 := List.all_eq_true.mp (show (List.range 161).all (fun a => !(zK a == (8, 14)) || zK (a + 4) == (20, 30)) = true by decide +kernel) a (List.mem_range.mpr h1)
  rw [h] at h2
  simpa using h2
theorem kx_8_5 {a : Nat} (h : zK a = (8, 14)) : zK (a + 5) = (20, 2692) := by
  have h1 := zK_lt a (by rw [h]; decide)
  have h2 := List.all_eq_true.mp (show (List.range 161).all (fun a => !(zK a == (8, 14)) || zK (a + 5) == (20, 2692)) = true by decide +kernel) a (List.mem_range.mpr h1)
  rw [h] at h2
  simpa using h2
theorem kx_8_6 {a : Nat} (h : zK a = (8, 14)) : zK (a + 6) = (20, 2692) := by
  have h1 := zK_lt a (by rw [h]; decide)
  have h2 := List.all_eq_true.mp (show (List.range 161).all (fun a => !(zK a == (8, 14)) || zK (a + 6) == (20, 2692)) = true by decide +kernel) a (List.mem_range.mpr h1)
  rw [h] at h2
  simpa using h2
theorem kx_8_7 {a : Nat} (h : zK a = (8, 14)) : zK (a + 7) = (20, 2692) := by
  have h1 := zK_lt a (by rw [h]; decide)
  have h2 := List.all_eq_true.mp (show (List.range 161).all (fun a => !(zK a == (8, 14)) || zK (a + 7) == (20, 2692)) = true by decide +kernel) a (List.mem_range.mpr h1)
  rw [h] at h2
  simpa using h2
theorem kx_8_8 {a : Nat} (h : zK a = (8, 14)) : zK (a + 8) = (4, 3) := by
  have h1 := zK_lt a (by rw [h]; decide)
  have h2 := List.all_eq_true.mp (show (List.range 161).all (fun a => !(zK a == (8, 14)) || zK (a + 8) == (4, 3)) = true by decide +kernel) a (List.mem_range.mpr h1)
  rw [h] at h2
  simpa using h2
theorem kx_8_9 {a : Nat} (h : zK a = (8, 14)) : zK (a + 9) = (20, 60) := by
  have h1 := zK_lt a (by rw [h]; decide)
  have h2 := List.all_eq_true.mp (show (List.range 161).all (fun a => !(zK a == (8, 14)) || zK (a + 9) == (20, 60)) = true by decide +kernel) a (List.mem_range.mpr h1)
  rw [h] at h2
  simpa using h2
theorem kx_8_10 {a : Nat} (h : zK a = (8, 14)) : zK (a + 10) = (20, 60) := by
  have h1 := zK_lt a (by rw [h]; decide)
  have h2 := List.all_eq_true.mp (show (List.range 161).all (fun a => !(zK a == (8, 14)) || zK (a + 10) == (20, 60)) = true by decide +kernel) a (List.mem_range.mpr h1)
  rw [h] at h2
  simpa using h2
theorem kx_8_11 {a : Nat} (h : zK a = (8, 14)) : zK (a + 11) = (4, 3) := by
  have h1 := zK_lt a (by rw [h]; decide)
  have h2 := List.all_eq_true.mp (show (List.range 161).all (fun a => !(zK a == (8, 14)) || zK (a + 11) == (4, 3)) = true by decide +kernel) a (List.mem_range.mpr h1)
  rw [h] at h2
  simpa using h2
theorem kx_8_12 {a : Nat} (h : zK a = (8, 14)) : zK (a + 12) = (20, 60) := by
  have h1 := zK_lt a (by rw [h]; decide)
  have h2 := List.all_eq_true.mp (show (List.range 161).all (fun a => !(zK a == (8, 14)) || zK (a + 12) == (20, 60)) = true by decide +kernel) a (List.mem_range.mpr h1)
  rw [h] at h2
  simpa using h2
theorem kx_8_13 {a : Nat} (h : zK a = (8, 14)) : zK (a + 13) = (20, 60) := by
  have h1 := zK_lt a (by rw [h]; decide)
  have h2 := List.all_eq_true.mp (show (List.range 161).all (fun a => !(zK a == (8, 14)) || zK (a + 13) == (20, 60)) = true by decide +kernel) a (List.mem_range.mpr h1)
  rw [h] at h2
  simpa using h2
theorem kx_8_14 {a : Nat} (h : zK a = (8, 14)) : zK (a + 14) = (20, 4) := by
  have h1 := zK_lt a (by rw [h]; decide)
  have h2 := List.all_eq_true.mp (show (List.range 161).all (fun a => !(zK a == (8, 14)) || zK (a + 14) == (20, 4)) = true by decide +kernel) a (List.mem_range.mpr h1)
  rw [h] at h2
  simpa using h2
theorem df_9 : ∀ j, j < 6 → defaultValue (tyX9 j) = (if zft 9 j = 2 then Value.null else .int 0) := by decide +kernel
theorem df_10 : ∀ j, j < 5 → defaultValue (tyX10 j) = (if zft 10 j = 2 then Value.null else .int 0) := by decide +kernel
theorem df_11 : ∀ j, j < 10 → defaultValue (tyX11 j) = (if zft 11 j = 2 then Value.null else .int 0) := by decide +kernel
theorem df_12 : ∀ j, j < 38 → defaultValue (tyX12 j) = (if zft 12 j = 2 then Value.null else .int 0) := by decide +kernel
theorem pg_0_0 (C : zC E nn cc RX0 Ts) (hnm : (zEme E).name = "<init>") {a idx t : Nat} (G : zG E nn a 0 9) (hin : ∀ w ∈ u_ws RX0 TX0 9, w ∈ Ts) (hlink : Cond.fieldLink RX0 idx "PremiumHours$BestWay" "work" "LPremiumHours$Week;" ∈ Ts) {v1 : zHp} (e : v1 = zst v a 0 (t : Int)) (d : decode cc pc = .ok (.putfield idx, 3)) (kk : zX E k n nn v1 (pc + 3) lo st) : zX E k n nn v pc lo (zr t :: zr a :: st) := z_putR (jj := 0) (Cn := RX0) (T := TX0) C tyX0_ok nmX0 G (by decide) rfl hin 0 rfl (by decide) rfl hlink rfl (Or.inr ⟨rfl, hnm, rfl⟩) (ty := .object "PremiumHours$Week") (by decide +kernel) (fun _ => rfl) (fun _ => rfl) d (fun v2 e2 => by rw [e2, ← e]; exact kk)
theorem pg_0_1 (C : zC E nn cc RX0 Ts) (hnm : (zEme E).name = "<init>") {a idx t : Nat} (G : zG E nn a 0 9) (hin : ∀ w ∈ u_ws RX0 TX0 9, w ∈ Ts) (hlink : Cond.fieldLink RX0 idx "PremiumHours$BestWay" "counting" "[I" ∈ Ts) {v1 : zHp} (e : v1 = zst v a 1 (t : Int)) (d : decode cc pc = .ok (.putfield idx, 3)) (kk : zX E k n nn v1 (pc + 3) lo st) : zX E k n nn v pc lo (zr t :: zr a :: st) := z_putR (jj := 1) (Cn := RX0) (T := TX0) C tyX0_ok nmX0 G (by decide) rfl hin 1 rfl (by decide) rfl hlink rfl (Or.inr ⟨rfl, hnm, rfl⟩) (ty := .array (.int)) (by decide +kernel) (fun _ => rfl) (fun _ => rfl) d (fun v2 e2 => by rw [e2, ← e]; exact kk)
theorem pg_0_2 (C : zC E nn cc RX0 Ts) (hnm : (zEme E).name = "<init>") {a idx t : Nat} (G : zG E nn a 0 9) (hin : ∀ w ∈ u_ws RX0 TX0 9, w ∈ Ts) (hlink : Cond.fieldLink RX0 idx "PremiumHours$BestWay" "other" "[I" ∈ Ts) {v1 : zHp} (e : v1 = zst v a 2 (t : Int)) (d : decode cc pc = .ok (.putfield idx, 3)) (kk : zX E k n nn v1 (pc + 3) lo st) : zX E k n nn v pc lo (zr t :: zr a :: st) := z_putR (jj := 2) (Cn := RX0) (T := TX0) C tyX0_ok nmX0 G (by decide) rfl hin 2 rfl (by decide) rfl hlink rfl (Or.inr ⟨rfl, hnm, rfl⟩) (ty := .array (.int)) (by decide +kernel) (fun _ => rfl) (fun _ => rfl) d (fun v2 e2 => by rw [e2, ← e]; exact kk)
theorem pg_0_3 (C : zC E nn cc RX0 Ts) (hnm : (zEme E).name = "<init>") {a idx t : Nat} (G : zG E nn a 0 9) (hin : ∀ w ∈ u_ws RX0 TX0 9, w ∈ Ts) (hlink : Cond.fieldLink RX0 idx "PremiumHours$BestWay" "weekCounting" "[I" ∈ Ts) {v1 : zHp} (e : v1 = zst v a 3 (t : Int)) (d : decode cc pc = .ok (.putfield idx, 3)) (kk : zX E k n nn v1 (pc + 3) lo st) : zX E k n nn v pc lo (zr t :: zr a :: st) := z_putR (jj := 3) (Cn := RX0) (T := TX0) C tyX0_ok nmX0 G (by decide) rfl hin 3 rfl (by decide) rfl hlink rfl (Or.inr ⟨rfl, hnm, rfl⟩) (ty := .array (.int)) (by decide +kernel) (fun _ => rfl) (fun _ => rfl) d (fun v2 e2 => by rw [e2, ← e]; exact kk)
theorem pg_0_4 (C : zC E nn cc RX0 Ts) (hnm : (zEme E).name = "<init>") {a idx t : Nat} (G : zG E nn a 0 9) (hin : ∀ w ∈ u_ws RX0 TX0 9, w ∈ Ts) (hlink : Cond.fieldLink RX0 idx "PremiumHours$BestWay" "weekOther" "[I" ∈ Ts) {v1 : zHp} (e : v1 = zst v a 4 (t : Int)) (d : decode cc pc = .ok (.putfield idx, 3)) (kk : zX E k n nn v1 (pc + 3) lo st) : zX E k n nn v pc lo (zr t :: zr a :: st) := z_putR (jj := 4) (Cn := RX0) (T := TX0) C tyX0_ok nmX0 G (by decide) rfl hin 4 rfl (by decide) rfl hlink rfl (Or.inr ⟨rfl, hnm, rfl⟩) (ty := .array (.int)) (by decide +kernel) (fun _ => rfl) (fun _ => rfl) d (fun v2 e2 => by rw [e2, ← e]; exact kk)
theorem pg_0_5 (C : zC E nn cc RX0 Ts) (hnm : (zEme E).name = "<init>") {a idx t : Nat} (G : zG E nn a 0 9) (hin : ∀ w ∈ u_ws RX0 TX0 9, w ∈ Ts) (hlink : Cond.fieldLink RX0 idx "PremiumHours$BestWay" "least" "[I" ∈ Ts) {v1 : zHp} (e : v1 = zst v a 5 (t : Int)) (d : decode cc pc = .ok (.putfield idx, 3)) (kk : zX E k n nn v1 (pc + 3) lo st) : zX E k n nn v pc lo (zr t :: zr a :: st) := z_putR (jj := 5) (Cn := RX0) (T := TX0) C tyX0_ok nmX0 G (by decide) rfl hin 5 rfl (by decide) rfl hlink rfl (Or.inr ⟨rfl, hnm, rfl⟩) (ty := .array (.int)) (by decide +kernel) (fun _ => rfl) (fun _ => rfl) d (fun v2 e2 => by rw [e2, ← e]; exact kk)
theorem pg_0_6 (C : zC E nn cc RX0 Ts) (hnm : (zEme E).name = "<init>") {a idx t : Nat} (G : zG E nn a 0 9) (hin : ∀ w ∈ u_ws RX0 TX0 9, w ∈ Ts) (hlink : Cond.fieldLink RX0 idx "PremiumHours$BestWay" "rest" "[I" ∈ Ts) {v1 : zHp} (e : v1 = zst v a 6 (t : Int)) (d : decode cc pc = .ok (.putfield idx, 3)) (kk : zX E k n nn v1 (pc + 3) lo st) : zX E k n nn v pc lo (zr t :: zr a :: st) := z_putR (jj := 6) (Cn := RX0) (T := TX0) C tyX0_ok nmX0 G (by decide) rfl hin 6 rfl (by decide) rfl hlink rfl (Or.inr ⟨rfl, hnm, rfl⟩) (ty := .array (.int)) (by decide +kernel) (fun _ => rfl) (fun _ => rfl) d (fun v2 e2 => by rw [e2, ← e]; exact kk)
theorem pg_0_7 (C : zC E nn cc RX0 Ts) (hnm : (zEme E).name = "<init>") {a idx t : Nat} (G : zG E nn a 0 9) (hin : ∀ w ∈ u_ws RX0 TX0 9, w ∈ Ts) (hlink : Cond.fieldLink RX0 idx "PremiumHours$BestWay" "marks" "[I" ∈ Ts) {v1 : zHp} (e : v1 = zst v a 7 (t : Int)) (d : decode cc pc = .ok (.putfield idx, 3)) (kk : zX E k n nn v1 (pc + 3) lo st) : zX E k n nn v pc lo (zr t :: zr a :: st) := z_putR (jj := 7) (Cn := RX0) (T := TX0) C tyX0_ok nmX0 G (by decide) rfl hin 7 rfl (by decide) rfl hlink rfl (Or.inr ⟨rfl, hnm, rfl⟩) (ty := .array (.int)) (by decide +kernel) (fun _ => rfl) (fun _ => rfl) d (fun v2 e2 => by rw [e2, ← e]; exact kk)
theorem pg_1_0 (C : zC E nn cc RX1 Ts) (hnm : (zEme E).name = "<init>") {a idx t : Nat} (G : zG E nn a 1 3) (hin : ∀ w ∈ u_ws RX1 TX1 3, w ∈ Ts) (hlink : Cond.fieldLink RX1 idx "PremiumHours$Card" "moments" "[I" ∈ Ts) {v1 : zHp} (e : v1 = zst v a 0 (t : Int)) (d : decode cc pc = .ok (.putfield idx, 3)) (kk : zX E k n nn v1 (pc + 3) lo st) : zX E k n nn v pc lo (zr t :: zr a :: st) := z_putR (jj := 0) (Cn := RX1) (T := TX1) C tyX1_ok nmX1 G (by decide) rfl hin 0 rfl (by decide) rfl hlink rfl (Or.inr ⟨rfl, hnm, rfl⟩) (ty := .array (.int)) (by decide +kernel) (fun _ => rfl) (fun _ => rfl) d (fun v2 e2 => by rw [e2, ← e]; exact kk)
theorem pg_1_1 (C : zC E nn cc RX1 Ts) (hnm : (zEme E).name = "<init>") {a idx t : Nat} (G : zG E nn a 1 3) (hin : ∀ w ∈ u_ws RX1 TX1 3, w ∈ Ts) (hlink : Cond.fieldLink RX1 idx "PremiumHours$Card" "kinds" "[I" ∈ Ts) {v1 : zHp} (e : v1 = zst v a 1 (t : Int)) (d : decode cc pc = .ok (.putfield idx, 3)) (kk : zX E k n nn v1 (pc + 3) lo st) : zX E k n nn v pc lo (zr t :: zr a :: st) := z_putR (jj := 1) (Cn := RX1) (T := TX1) C tyX1_ok nmX1 G (by decide) rfl hin 1 rfl (by decide) rfl hlink rfl (Or.inr ⟨rfl, hnm, rfl⟩) (ty := .array (.int)) (by decide +kernel) (fun _ => rfl) (fun _ => rfl) d (fun v2 e2 => by rw [e2, ← e]; exact kk)
theorem pg_3_0 (C : zC E nn cc RX3 Ts) (hnm : (zEme E).name = "<init>") {a idx t : Nat} (G : zG E nn a 3 5) (hin : ∀ w ∈ u_ws RX3 TX3 5, w ∈ Ts) (hlink : Cond.fieldLink RX3 idx "PremiumHours$History" "workers" "[I" ∈ Ts) {v1 : zHp} (e : v1 = zst v a 0 (t : Int)) (d : decode cc pc = .ok (.putfield idx, 3)) (kk : zX E k n nn v1 (pc + 3) lo st) : zX E k n nn v pc lo (zr t :: zr a :: st) := z_putR (jj := 0) (Cn := RX3) (T := TX3) C tyX3_ok nmX3 G (by decide) rfl hin 0 rfl (by decide) rfl hlink rfl (Or.inr ⟨rfl, hnm, rfl⟩) (ty := .array (.int)) (by decide +kernel) (fun _ => rfl) (fun _ => rfl) d (fun v2 e2 => by rw [e2, ← e]; exact kk)
theorem pg_3_1 (C : zC E nn cc RX3 Ts) (hnm : (zEme E).name = "<init>") {a idx t : Nat} (G : zG E nn a 3 5) (hin : ∀ w ∈ u_ws RX3 TX3 5, w ∈ Ts) (hlink : Cond.fieldLink RX3 idx "PremiumHours$History" "moments" "[I" ∈ Ts) {v1 : zHp} (e : v1 = zst v a 1 (t : Int)) (d : decode cc pc = .ok (.putfield idx, 3)) (kk : zX E k n nn v1 (pc + 3) lo st) : zX E k n nn v pc lo (zr t :: zr a :: st) := z_putR (jj := 1) (Cn := RX3) (T := TX3) C tyX3_ok nmX3 G (by decide) rfl hin 1 rfl (by decide) rfl hlink rfl (Or.inr ⟨rfl, hnm, rfl⟩) (ty := .array (.int)) (by decide +kernel) (fun _ => rfl) (fun _ => rfl) d (fun v2 e2 => by rw [e2, ← e]; exact kk)
theorem pg_3_2 (C : zC E nn cc RX3 Ts) (hnm : (zEme E).name = "<init>") {a idx t : Nat} (G : zG E nn a 3 5) (hin : ∀ w ∈ u_ws RX3 TX3 5, w ∈ Ts) (hlink : Cond.fieldLink RX3 idx "PremiumHours$History" "kinds" "[I" ∈ Ts) {v1 : zHp} (e : v1 = zst v a 2 (t : Int)) (d : decode cc pc = .ok (.putfield idx, 3)) (kk : zX E k n nn v1 (pc + 3) lo st) : zX E k n nn v pc lo (zr t :: zr a :: st) := z_putR (jj := 2) (Cn := RX3) (T := TX3) C tyX3_ok nmX3 G (by decide) rfl hin 2 rfl (by decide) rfl hlink rfl (Or.inr ⟨rfl, hnm, rfl⟩) (ty := .array (.int)) (by decide +kernel) (fun _ => rfl) (fun _ => rfl) d (fun v2 e2 => by rw [e2, ← e]; exact kk)
theorem pg_3_3 (C : zC E nn cc RX3 Ts) (hnm : (zEme E).name = "<init>") {a idx t : Nat} (G : zG E nn a 3 5) (hin : ∀ w ∈ u_ws RX3 TX3 5, w ∈ Ts) (hlink : Cond.fieldLink RX3 idx "PremiumHours$History" "came" "[Z" ∈ Ts) {v1 : zHp} (e : v1 = zst v a 3 (t : Int)) (d : decode cc pc = .ok (.putfield idx, 3)) (kk : zX E k n nn v1 (pc + 3) lo st) : zX E k n nn v pc lo (zr t :: zr a :: st) := z_putR (jj := 3) (Cn := RX3) (T := TX3) C tyX3_ok nmX3 G (by decide) rfl hin 3 rfl (by decide) rfl hlink rfl (Or.inr ⟨rfl, hnm, rfl⟩) (ty := .array (.boolean)) (by decide +kernel) (fun _ => rfl) (fun _ => rfl) d (fun v2 e2 => by rw [e2, ← e]; exact kk)
theorem pg_4_0 (C : zC E nn cc RX4 Ts) (hnm : (zEme E).name = "<init>") {a idx t : Nat} (G : zG E nn a 4 3) (hin : ∀ w ∈ u_ws RX4 TX4 3, w ∈ Ts) (hlink : Cond.fieldLink RX4 idx "PremiumHours$Pieces" "begins" "[I" ∈ Ts) {v1 : zHp} (e : v1 = zst v a 0 (t : Int)) (d : decode cc pc = .ok (.putfield idx, 3)) (kk : zX E k n nn v1 (pc + 3) lo st) : zX E k n nn v pc lo (zr t :: zr a :: st) := z_putR (jj := 0) (Cn := RX4) (T := TX4) C tyX4_ok nmX4 G (by decide) rfl hin 0 rfl (by decide) rfl hlink rfl (Or.inr ⟨rfl, hnm, rfl⟩) (ty := .array (.int)) (by decide +kernel) (fun _ => rfl) (fun _ => rfl) d (fun v2 e2 => by rw [e2, ← e]; exact kk)
theorem pg_4_1 (C : zC E nn cc RX4 Ts) (hnm : (zEme E).name = "<init>") {a idx t : Nat} (G : zG E nn a 4 3) (hin : ∀ w ∈ u_ws RX4 TX4 3, w ∈ Ts) (hlink : Cond.fieldLink RX4 idx "PremiumHours$Pieces" "ends" "[I" ∈ Ts) {v1 : zHp} (e : v1 = zst v a 1 (t : Int)) (d : decode cc pc = .ok (.putfield idx, 3)) (kk : zX E k n nn v1 (pc + 3) lo st) : zX E k n nn v pc lo (zr t :: zr a :: st) := z_putR (jj := 1) (Cn := RX4) (T := TX4) C tyX4_ok nmX4 G (by decide) rfl hin 1 rfl (by decide) rfl hlink rfl (Or.inr ⟨rfl, hnm, rfl⟩) (ty := .array (.int)) (by decide +kernel) (fun _ => rfl) (fun _ => rfl) d (fun v2 e2 => by rw [e2, ← e]; exact kk)
theorem pg_7_0 (C : zC E nn cc RX7 Ts) (hnm : (zEme E).name = "<init>") {a idx t : Nat} (G : zG E nn a 7 10) (hin : ∀ w ∈ u_ws RX7 TX7 10, w ∈ Ts) (hlink : Cond.fieldLink RX7 idx "PremiumHours$Rules" "clock" "LPremiumHours$Clock;" ∈ Ts) {v1 : zHp} (e : v1 = zst v a 0 (t : Int)) (d : decode cc pc = .ok (.putfield idx, 3)) (kk : zX E k n nn v1 (pc + 3) lo st) : zX E k n nn v pc lo (zr t :: zr a :: st) := z_putR (jj := 0) (Cn := RX7) (T := TX7) C tyX7_ok nmX7 G (by decide) rfl hin 0 rfl (by decide) rfl hlink rfl (Or.inr ⟨rfl, hnm, rfl⟩) (ty := .object "PremiumHours$Clock") (by decide +kernel) (fun _ => rfl) (fun _ => rfl) d (fun v2 e2 => by rw [e2, ← e]; exact kk)
theorem pg_7_1 (C : zC E nn cc RX7 Ts) (hnm : (zEme E).name = "<init>") {a idx t : Nat} (G : zG E nn a 7 10) (hin : ∀ w ∈ u_ws RX7 TX7 10, w ∈ Ts) (hlink : Cond.fieldLink RX7 idx "PremiumHours$Rules" "premiums" "[LPremiumHours$Premium;" ∈ Ts) {v1 : zHp} (e : v1 = zst v a 1 (t : Int)) (d : decode cc pc = .ok (.putfield idx, 3)) (kk : zX E k n nn v1 (pc + 3) lo st) : zX E k n nn v pc lo (zr t :: zr a :: st) := z_putR (jj := 1) (Cn := RX7) (T := TX7) C tyX7_ok nmX7 G (by decide) rfl hin 1 rfl (by decide) rfl hlink rfl (Or.inr ⟨rfl, hnm, rfl⟩) (ty := .array (.object "PremiumHours$Premium")) (by decide +kernel) (fun _ => rfl) (fun _ => rfl) d (fun v2 e2 => by rw [e2, ← e]; exact kk)
theorem pg_7_3 (C : zC E nn cc RX7 Ts) (hnm : (zEme E).name = "<init>") {a idx t : Nat} (G : zG E nn a 7 10) (hin : ∀ w ∈ u_ws RX7 TX7 10, w ∈ Ts) (hlink : Cond.fieldLink RX7 idx "PremiumHours$Rules" "holidays" "[I" ∈ Ts) {v1 : zHp} (e : v1 = zst v a 3 (t : Int)) (d : decode cc pc = .ok (.putfield idx, 3)) (kk : zX E k n nn v1 (pc + 3) lo st) : zX E k n nn v pc lo (zr t :: zr a :: st) := z_putR (jj := 3) (Cn := RX7) (T := TX7) C tyX7_ok nmX7 G (by decide) rfl hin 3 rfl (by decide) rfl hlink rfl (Or.inr ⟨rfl, hnm, rfl⟩) (ty := .array (.int)) (by decide +kernel) (fun _ => rfl) (fun _ => rfl) d (fun v2 e2 => by rw [e2, ← e]; exact kk)
theorem pg_8_1 (C : zC E nn cc RX8 Ts) (hnm : (zEme E).name = "<init>") {a idx t : Nat} (G : zG E nn a 8 14) (hin : ∀ w ∈ u_ws RX8 TX8 14, w ∈ Ts) (hlink : Cond.fieldLink RX8 idx "PremiumHours$Sheet" "roles" "[I" ∈ Ts) {v1 : zHp} (e : v1 = zst v a 1 (t : Int)) (d : decode cc pc = .ok (.putfield idx, 3)) (kk : zX E k n nn v1 (pc + 3) lo st) : zX E k n nn v pc lo (zr t :: zr a :: st) := z_putR (jj := 1) (Cn := RX8) (T := TX8) C tyX8_ok nmX8 G (by decide) rfl hin 1 rfl (by decide) rfl hlink rfl (Or.inr ⟨rfl, hnm, rfl⟩) (ty := .array (.int)) (by decide +kernel) (fun _ => rfl) (fun _ => rfl) d (fun v2 e2 => by rw [e2, ← e]; exact kk)
theorem pg_8_2 (C : zC E nn cc RX8 Ts) (hnm : (zEme E).name = "<init>") {a idx t : Nat} (G : zG E nn a 8 14) (hin : ∀ w ∈ u_ws RX8 TX8 14, w ∈ Ts) (hlink : Cond.fieldLink RX8 idx "PremiumHours$Sheet" "spanBegins" "[I" ∈ Ts) {v1 : zHp} (e : v1 = zst v a 2 (t : Int)) (d : decode cc pc = .ok (.putfield idx, 3)) (kk : zX E k n nn v1 (pc + 3) lo st) : zX E k n nn v pc lo (zr t :: zr a :: st) := z_putR (jj := 2) (Cn := RX8) (T := TX8) C tyX8_ok nmX8 G (by decide) rfl hin 2 rfl (by decide) rfl hlink rfl (Or.inr ⟨rfl, hnm, rfl⟩) (ty := .array (.int)) (by decide +kernel) (fun _ => rfl) (fun _ => rfl) d (fun v2 e2 => by rw [e2, ← e]; exact kk)
theorem pg_8_3 (C : zC E nn cc RX8 Ts) (hnm : (zEme E).name = "<init>") {a idx t : Nat} (G : zG E nn a 8 14) (hin : ∀ w ∈ u_ws RX8 TX8 14, w ∈ Ts) (hlink : Cond.fieldLink RX8 idx "PremiumHours$Sheet" "spanEnds" "[I" ∈ Ts) {v1 : zHp} (e : v1 = zst v a 3 (t : Int)) (d : decode cc pc = .ok (.putfield idx, 3)) (kk : zX E k n nn v1 (pc + 3) lo st) : zX E k n nn v pc lo (zr t :: zr a :: st) := z_putR (jj := 3) (Cn := RX8) (T := TX8) C tyX8_ok nmX8 G (by decide) rfl hin 3 rfl (by decide) rfl hlink rfl (Or.inr ⟨rfl, hnm, rfl⟩) (ty := .array (.int)) (by decide +kernel) (fun _ => rfl) (fun _ => rfl) d (fun v2 e2 => by rw [e2, ← e]; exact kk)
theorem pg_8_4 (C : zC E nn cc RX8 Ts) (hnm : (zEme E).name = "<init>") {a idx t : Nat} (G : zG E nn a 8 14) (hin : ∀ w ∈ u_ws RX8 TX8 14, w ∈ Ts) (hlink : Cond.fieldLink RX8 idx "PremiumHours$Sheet" "spanWorked" "[I" ∈ Ts) {v1 : zHp} (e : v1 = zst v a 4 (t : Int)) (d : decode cc pc = .ok (.putfield idx, 3)) (kk : zX E k n nn v1 (pc + 3) lo st) : zX E k n nn v pc lo (zr t :: zr a :: st) := z_putR (jj := 4) (Cn := RX8) (T := TX8) C tyX8_ok nmX8 G (by decide) rfl hin 4 rfl (by decide) rfl hlink rfl (Or.inr ⟨rfl, hnm, rfl⟩) (ty := .array (.int)) (by decide +kernel) (fun _ => rfl) (fun _ => rfl) d (fun v2 e2 => by rw [e2, ← e]; exact kk)
theorem pg_8_6 (C : zC E nn cc RX8 Ts) (hnm : (zEme E).name = "<init>") {a idx t : Nat} (G : zG E nn a 8 14) (hin : ∀ w ∈ u_ws RX8 TX8 14, w ∈ Ts) (hlink : Cond.fieldLink RX8 idx "PremiumHours$Sheet" "paid" "[I" ∈ Ts) {v1 : zHp} (e : v1 = zst v a 6 (t : Int)) (d : decode cc pc = .ok (.putfield idx, 3)) (kk : zX E k n nn v1 (pc + 3) lo st) : zX E k n nn v pc lo (zr t :: zr a :: st) := z_putR (jj := 6) (Cn := RX8) (T := TX8) C tyX8_ok nmX8 G (by decide) rfl hin 6 rfl (by decide) rfl hlink rfl (Or.inr ⟨rfl, hnm, rfl⟩) (ty := .array (.int)) (by decide +kernel) (fun _ => rfl) (fun _ => rfl) d (fun v2 e2 => by rw [e2, ← e]; exact kk)
theorem pg_8_7 (C : zC E nn cc RX8 Ts) (hnm : (zEme E).name = "<init>") {a idx t : Nat} (G : zG E nn a 8 14) (hin : ∀ w ∈ u_ws RX8 TX8 14, w ∈ Ts) (hlink : Cond.fieldLink RX8 idx "PremiumHours$Sheet" "came" "[I" ∈ Ts) {v1 : zHp} (e : v1 = zst v a 7 (t : Int)) (d : decode cc pc = .ok (.putfield idx, 3)) (kk : zX E k n nn v1 (pc + 3) lo st) : zX E k n nn v pc lo (zr t :: zr a :: st) := z_putR (jj := 7) (Cn := RX8) (T := TX8) C tyX8_ok nmX8 G (by decide) rfl hin 7 rfl (by decide) rfl hlink rfl (Or.inr ⟨rfl, hnm, rfl⟩) (ty := .array (.int)) (by decide +kernel) (fun _ => rfl) (fun _ => rfl) d (fun v2 e2 => by rw [e2, ← e]; exact kk)
theorem pg_8_8 (C : zC E nn cc RX8 Ts) (hnm : (zEme E).name = "<init>") {a idx t : Nat} (G : zG E nn a 8 14) (hin : ∀ w ∈ u_ws RX8 TX8 14, w ∈ Ts) (hlink : Cond.fieldLink RX8 idx "PremiumHours$Sheet" "may" "[I" ∈ Ts) {v1 : zHp} (e : v1 = zst v a 8 (t : Int)) (d : decode cc pc = .ok (.putfield idx, 3)) (kk : zX E k n nn v1 (pc + 3) lo st) : zX E k n nn v pc lo (zr t :: zr a :: st) := z_putR (jj := 8) (Cn := RX8) (T := TX8) C tyX8_ok nmX8 G (by decide) rfl hin 8 rfl (by decide) rfl hlink rfl (Or.inr ⟨rfl, hnm, rfl⟩) (ty := .array (.int)) (by decide +kernel) (fun _ => rfl) (fun _ => rfl) d (fun v2 e2 => by rw [e2, ← e]; exact kk)
theorem pg_8_11 (C : zC E nn cc RX8 Ts) (hnm : (zEme E).name = "<init>") {a idx t : Nat} (G : zG E nn a 8 14) (hin : ∀ w ∈ u_ws RX8 TX8 14, w ∈ Ts) (hlink : Cond.fieldLink RX8 idx "PremiumHours$Sheet" "weekPay" "[I" ∈ Ts) {v1 : zHp} (e : v1 = zst v a 11 (t : Int)) (d : decode cc pc = .ok (.putfield idx, 3)) (kk : zX E k n nn v1 (pc + 3) lo st) : zX E k n nn v pc lo (zr t :: zr a :: st) := z_putR (jj := 11) (Cn := RX8) (T := TX8) C tyX8_ok nmX8 G (by decide) rfl hin 11 rfl (by decide) rfl hlink rfl (Or.inr ⟨rfl, hnm, rfl⟩) (ty := .array (.int)) (by decide +kernel) (fun _ => rfl) (fun _ => rfl) d (fun v2 e2 => by rw [e2, ← e]; exact kk)
theorem pg_9_0 (C : zC E nn cc RX9 Ts) (hnm : (zEme E).name = "<init>") {a idx t : Nat} (G : zG E nn a 9 6) (hin : ∀ w ∈ u_ws RX9 TX9 6, w ∈ Ts) (hlink : Cond.fieldLink RX9 idx "PremiumHours$Tape" "bytes" "[I" ∈ Ts) {v1 : zHp} (e : v1 = zst v a 0 (t : Int)) (d : decode cc pc = .ok (.putfield idx, 3)) (kk : zX E k n nn v1 (pc + 3) lo st) : zX E k n nn v pc lo (zr t :: zr a :: st) := z_putR (jj := 0) (Cn := RX9) (T := TX9) C tyX9_ok nmX9 G (by decide) rfl hin 0 rfl (by decide) rfl hlink rfl (Or.inr ⟨rfl, hnm, rfl⟩) (ty := .array (.int)) (by decide +kernel) (fun _ => rfl) (fun _ => rfl) d (fun v2 e2 => by rw [e2, ← e]; exact kk)
theorem pg_10_0 (C : zC E nn cc RX10 Ts) (hnm : (zEme E).name = "<init>") {a idx t : Nat} (G : zG E nn a 10 5) (hin : ∀ w ∈ u_ws RX10 TX10 5, w ∈ Ts) (hlink : Cond.fieldLink RX10 idx "PremiumHours$Week" "quarters" "[I" ∈ Ts) {v1 : zHp} (e : v1 = zst v a 0 (t : Int)) (d : decode cc pc = .ok (.putfield idx, 3)) (kk : zX E k n nn v1 (pc + 3) lo st) : zX E k n nn v pc lo (zr t :: zr a :: st) := z_putR (jj := 0) (Cn := RX10) (T := TX10) C tyX10_ok nmX10 G (by decide) rfl hin 0 rfl (by decide) rfl hlink rfl (Or.inr ⟨rfl, hnm, rfl⟩) (ty := .array (.int)) (by decide +kernel) (fun _ => rfl) (fun _ => rfl) d (fun v2 e2 => by rw [e2, ← e]; exact kk)
theorem pg_10_1 (C : zC E nn cc RX10 Ts) (hnm : (zEme E).name = "<init>") {a idx t : Nat} (G : zG E nn a 10 5) (hin : ∀ w ∈ u_ws RX10 TX10 5, w ∈ Ts) (hlink : Cond.fieldLink RX10 idx "PremiumHours$Week" "bits" "[I" ∈ Ts) {v1 : zHp} (e : v1 = zst v a 1 (t : Int)) (d : decode cc pc = .ok (.putfield idx, 3)) (kk : zX E k n nn v1 (pc + 3) lo st) : zX E k n nn v pc lo (zr t :: zr a :: st) := z_putR (jj := 1) (Cn := RX10) (T := TX10) C tyX10_ok nmX10 G (by decide) rfl hin 1 rfl (by decide) rfl hlink rfl (Or.inr ⟨rfl, hnm, rfl⟩) (ty := .array (.int)) (by decide +kernel) (fun _ => rfl) (fun _ => rfl) d (fun v2 e2 => by rw [e2, ← e]; exact kk)
theorem pg_10_2 (C : zC E nn cc RX10 Ts) (hnm : (zEme E).name = "<init>") {a idx t : Nat} (G : zG E nn a 10 5) (hin : ∀ w ∈ u_ws RX10 TX10 5, w ∈ Ts) (hlink : Cond.fieldLink RX10 idx "PremiumHours$Week" "paid" "[I" ∈ Ts) {v1 : zHp} (e : v1 = zst v a 2 (t : Int)) (d : decode cc pc = .ok (.putfield idx, 3)) (kk : zX E k n nn v1 (pc + 3) lo st) : zX E k n nn v pc lo (zr t :: zr a :: st) := z_putR (jj := 2) (Cn := RX10) (T := TX10) C tyX10_ok nmX10 G (by decide) rfl hin 2 rfl (by decide) rfl hlink rfl (Or.inr ⟨rfl, hnm, rfl⟩) (ty := .array (.int)) (by decide +kernel) (fun _ => rfl) (fun _ => rfl) d (fun v2 e2 => by rw [e2, ← e]; exact kk)
theorem pg_11_0 (C : zC E nn cc RX11 Ts) (hnm : (zEme E).name = "<init>") {a idx t : Nat} (G : zG E nn a 11 10) (hin : ∀ w ∈ u_ws RX11 TX11 10, w ∈ Ts) (hlink : Cond.fieldLink RX11 idx "PremiumHours" "tape" "LPremiumHours$Tape;" ∈ Ts) {v1 : zHp} (e : v1 = zst v a 0 (t : Int)) (d : decode cc pc = .ok (.putfield idx, 3)) (kk : zX E k n nn v1 (pc + 3) lo st) : zX E k n nn v pc lo (zr t :: zr a :: st) := z_putR (jj := 0) (Cn := RX11) (T := TX11) C tyX11_ok nmX11 G (by decide) rfl hin 0 rfl (by decide) rfl hlink rfl (Or.inr ⟨rfl, hnm, rfl⟩) (ty := .object "PremiumHours$Tape") (by decide +kernel) (fun _ => rfl) (fun _ => rfl) d (fun v2 e2 => by rw [e2, ← e]; exact kk)
theorem pg_11_1 (C : zC E nn cc RX11 Ts) (hnm : (zEme E).name = "<init>") {a idx t : Nat} (G : zG E nn a 11 10) (hin : ∀ w ∈ u_ws RX11 TX11 10, w ∈ Ts) (hlink : Cond.fieldLink RX11 idx "PremiumHours" "reader" "LPremiumHours$RuleReader;" ∈ Ts) {v1 : zHp} (e : v1 = zst v a 1 (t : Int)) (d : decode cc pc = .ok (.putfield idx, 3)) (kk : zX E k n nn v1 (pc + 3) lo st) : zX E k n nn v pc lo (zr t :: zr a :: st) := z_putR (jj := 1) (Cn := RX11) (T := TX11) C tyX11_ok nmX11 G (by decide) rfl hin 1 rfl (by decide) rfl hlink rfl (Or.inr ⟨rfl, hnm, rfl⟩) (ty := .object "PremiumHours$RuleReader") (by decide +kernel) (fun _ => rfl) (fun _ => rfl) d (fun v2 e2 => by rw [e2, ← e]; exact kk)
theorem pg_11_4 (C : zC E nn cc RX11 Ts) (hnm : (zEme E).name = "<init>") {a idx t : Nat} (G : zG E nn a 11 10) (hin : ∀ w ∈ u_ws RX11 TX11 10, w ∈ Ts) (hlink : Cond.fieldLink RX11 idx "PremiumHours" "cards" "[LPremiumHours$Card;" ∈ Ts) {v1 : zHp} (e : v1 = zst v a 4 (t : Int)) (d : decode cc pc = .ok (.putfield idx, 3)) (kk : zX E k n nn v1 (pc + 3) lo st) : zX E k n nn v pc lo (zr t :: zr a :: st) := z_putR (jj := 4) (Cn := RX11) (T := TX11) C tyX11_ok nmX11 G (by decide) rfl hin 4 rfl (by decide) rfl hlink rfl (Or.inr ⟨rfl, hnm, rfl⟩) (ty := .array (.object "PremiumHours$Card")) (by decide +kernel) (fun _ => rfl) (fun _ => rfl) d (fun v2 e2 => by rw [e2, ← e]; exact kk)
theorem pg_11_5 (C : zC E nn cc RX11 Ts) (hnm : (zEme E).name = "<init>") {a idx t : Nat} (G : zG E nn a 11 10) (hin : ∀ w ∈ u_ws RX11 TX11 10, w ∈ Ts) (hlink : Cond.fieldLink RX11 idx "PremiumHours" "sheets" "[LPremiumHours$Sheet;" ∈ Ts) {v1 : zHp} (e : v1 = zst v a 5 (t : Int)) (d : decode cc pc = .ok (.putfield idx, 3)) (kk : zX E k n nn v1 (pc + 3) lo st) : zX E k n nn v pc lo (zr t :: zr a :: st) := z_putR (jj := 5) (Cn := RX11) (T := TX11) C tyX11_ok nmX11 G (by decide) rfl hin 5 rfl (by decide) rfl hlink rfl (Or.inr ⟨rfl, hnm, rfl⟩) (ty := .array (.object "PremiumHours$Sheet")) (by decide +kernel) (fun _ => rfl) (fun _ => rfl) d (fun v2 e2 => by rw [e2, ← e]; exact kk)
theorem pg_11_6 (C : zC E nn cc RX11 Ts) (hnm : (zEme E).name = "<init>") {a idx t : Nat} (G : zG E nn a 11 10) (hin : ∀ w ∈ u_ws RX11 TX11 10, w ∈ Ts) (hlink : Cond.fieldLink RX11 idx "PremiumHours" "history" "LPremiumHours$History;" ∈ Ts) {v1 : zHp} (e : v1 = zst v a 6 (t : Int)) (d : decode cc pc = .ok (.putfield idx, 3)) (kk : zX E k n nn v1 (pc + 3) lo st) : zX E k n nn v pc lo (zr t :: zr a :: st) := z_putR (jj := 6) (Cn := RX11) (T := TX11) C tyX11_ok nmX11 G (by decide) rfl hin 6 rfl (by decide) rfl hlink rfl (Or.inr ⟨rfl, hnm, rfl⟩) (ty := .object "PremiumHours$History") (by decide +kernel) (fun _ => rfl) (fun _ => rfl) d (fun v2 e2 => by rw [e2, ← e]; exact kk)
theorem pg_11_7 (C : zC E nn cc RX11 Ts) (hnm : (zEme E).name = "<init>") {a idx t : Nat} (G : zG E nn a 11 10) (hin : ∀ w ∈ u_ws RX11 TX11 10, w ∈ Ts) (hlink : Cond.fieldLink RX11 idx "PremiumHours" "trialCard" "LPremiumHours$Card;" ∈ Ts) {v1 : zHp} (e : v1 = zst v a 7 (t : Int)) (d : decode cc pc = .ok (.putfield idx, 3)) (kk : zX E k n nn v1 (pc + 3) lo st) : zX E k n nn v pc lo (zr t :: zr a :: st) := z_putR (jj := 7) (Cn := RX11) (T := TX11) C tyX11_ok nmX11 G (by decide) rfl hin 7 rfl (by decide) rfl hlink rfl (Or.inr ⟨rfl, hnm, rfl⟩) (ty := .object "PremiumHours$Card") (by decide +kernel) (fun _ => rfl) (fun _ => rfl) d (fun v2 e2 => by rw [e2, ← e]; exact kk)
theorem pg_11_8 (C : zC E nn cc RX11 Ts) (hnm : (zEme E).name = "<init>") {a idx t : Nat} (G : zG E nn a 11 10) (hin : ∀ w ∈ u_ws RX11 TX11 10, w ∈ Ts) (hlink : Cond.fieldLink RX11 idx "PremiumHours" "trialSheet" "LPremiumHours$Sheet;" ∈ Ts) {v1 : zHp} (e : v1 = zst v a 8 (t : Int)) (d : decode cc pc = .ok (.putfield idx, 3)) (kk : zX E k n nn v1 (pc + 3) lo st) : zX E k n nn v pc lo (zr t :: zr a :: st) := z_putR (jj := 8) (Cn := RX11) (T := TX11) C tyX11_ok nmX11 G (by decide) rfl hin 8 rfl (by decide) rfl hlink rfl (Or.inr ⟨rfl, hnm, rfl⟩) (ty := .object "PremiumHours$Sheet") (by decide +kernel) (fun _ => rfl) (fun _ => rfl) d (fun v2 e2 => by rw [e2, ← e]; exact kk)
theorem pg_11_9 (C : zC E nn cc RX11 Ts) (hnm : (zEme E).name = "<init>") {a idx t : Nat} (G : zG E nn a 11 10) (hin : ∀ w ∈ u_ws RX11 TX11 10, w ∈ Ts) (hlink : Cond.fieldLink RX11 idx "PremiumHours" "way" "LPremiumHours$BestWay;" ∈ Ts) {v1 : zHp} (e : v1 = zst v a 9 (t : Int)) (d : decode cc pc = .ok (.putfield idx, 3)) (kk : zX E k n nn v1 (pc + 3) lo st) : zX E k n nn v pc lo (zr t :: zr a :: st) := z_putR (jj := 9) (Cn := RX11) (T := TX11) C tyX11_ok nmX11 G (by decide) rfl hin 9 rfl (by decide) rfl hlink rfl (Or.inr ⟨rfl, hnm, rfl⟩) (ty := .object "PremiumHours$BestWay") (by decide +kernel) (fun _ => rfl) (fun _ => rfl) d (fun v2 e2 => by rw [e2, ← e]; exact kk)
theorem pg_12_1 (C : zC E nn cc RX12 Ts) (hnm : (zEme E).name = "<init>") {a idx t : Nat} (G : zG E nn a 12 38) (hin : ∀ w ∈ u_ws RX12 TX12 38, w ∈ Ts) (hlink : Cond.fieldLink RX12 idx "PremiumHoursModel" "tape" "[B" ∈ Ts) {v1 : zHp} (e : v1 = zst v a 1 (t : Int)) (d : decode cc pc = .ok (.putfield idx, 3)) (kk : zX E k n nn v1 (pc + 3) lo st) : zX E k n nn v pc lo (zr t :: zr a :: st) := z_putR (jj := 1) (Cn := RX12) (T := TX12) C tyX12_ok nmX12 G (by decide) rfl hin 1 rfl (by decide) rfl hlink rfl (Or.inr ⟨rfl, hnm, rfl⟩) (ty := .array (.byte)) (by decide +kernel) (fun _ => rfl) (fun _ => rfl) d (fun v2 e2 => by rw [e2, ← e]; exact kk)
theorem pg_12_10 (C : zC E nn cc RX12 Ts) (hnm : (zEme E).name = "<init>") {a idx t : Nat} (G : zG E nn a 12 38) (hin : ∀ w ∈ u_ws RX12 TX12 38, w ∈ Ts) (hlink : Cond.fieldLink RX12 idx "PremiumHoursModel" "rules" "[I" ∈ Ts) {v1 : zHp} (e : v1 = zst v a 10 (t : Int)) (d : decode cc pc = .ok (.putfield idx, 3)) (kk : zX E k n nn v1 (pc + 3) lo st) : zX E k n nn v pc lo (zr t :: zr a :: st) := z_putR (jj := 10) (Cn := RX12) (T := TX12) C tyX12_ok nmX12 G (by decide) rfl hin 10 rfl (by decide) rfl hlink rfl (Or.inr ⟨rfl, hnm, rfl⟩) (ty := .array (.int)) (by decide +kernel) (fun _ => rfl) (fun _ => rfl) d (fun v2 e2 => by rw [e2, ← e]; exact kk)
theorem pg_12_11 (C : zC E nn cc RX12 Ts) (hnm : (zEme E).name = "<init>") {a idx t : Nat} (G : zG E nn a 12 38) (hin : ∀ w ∈ u_ws RX12 TX12 38, w ∈ Ts) (hlink : Cond.fieldLink RX12 idx "PremiumHoursModel" "draft" "[I" ∈ Ts) {v1 : zHp} (e : v1 = zst v a 11 (t : Int)) (d : decode cc pc = .ok (.putfield idx, 3)) (kk : zX E k n nn v1 (pc + 3) lo st) : zX E k n nn v pc lo (zr t :: zr a :: st) := z_putR (jj := 11) (Cn := RX12) (T := TX12) C tyX12_ok nmX12 G (by decide) rfl hin 11 rfl (by decide) rfl hlink rfl (Or.inr ⟨rfl, hnm, rfl⟩) (ty := .array (.int)) (by decide +kernel) (fun _ => rfl) (fun _ => rfl) d (fun v2 e2 => by rw [e2, ← e]; exact kk)
theorem pg_12_13 (C : zC E nn cc RX12 Ts) (hnm : (zEme E).name = "<init>") {a idx t : Nat} (G : zG E nn a 12 38) (hin : ∀ w ∈ u_ws RX12 TX12 38, w ∈ Ts) (hlink : Cond.fieldLink RX12 idx "PremiumHoursModel" "punches" "[I" ∈ Ts) {v1 : zHp} (e : v1 = zst v a 13 (t : Int)) (d : decode cc pc = .ok (.putfield idx, 3)) (kk : zX E k n nn v1 (pc + 3) lo st) : zX E k n nn v pc lo (zr t :: zr a :: st) := z_putR (jj := 13) (Cn := RX12) (T := TX12) C tyX12_ok nmX12 G (by decide) rfl hin 13 rfl (by decide) rfl hlink rfl (Or.inr ⟨rfl, hnm, rfl⟩) (ty := .array (.int)) (by decide +kernel) (fun _ => rfl) (fun _ => rfl) d (fun v2 e2 => by rw [e2, ← e]; exact kk)
theorem pg_12_14 (C : zC E nn cc RX12 Ts) (hnm : (zEme E).name = "<init>") {a idx t : Nat} (G : zG E nn a 12 38) (hin : ∀ w ∈ u_ws RX12 TX12 38, w ∈ Ts) (hlink : Cond.fieldLink RX12 idx "PremiumHoursModel" "when" "[I" ∈ Ts) {v1 : zHp} (e : v1 = zst v a 14 (t : Int)) (d : decode cc pc = .ok (.putfield idx, 3)) (kk : zX E k n nn v1 (pc + 3) lo st) : zX E k n nn v pc lo (zr t :: zr a :: st) := z_putR (jj := 14) (Cn := RX12) (T := TX12) C tyX12_ok nmX12 G (by decide) rfl hin 14 rfl (by decide) rfl hlink rfl (Or.inr ⟨rfl, hnm, rfl⟩) (ty := .array (.int)) (by decide +kernel) (fun _ => rfl) (fun _ => rfl) d (fun v2 e2 => by rw [e2, ← e]; exact kk)
theorem pg_12_15 (C : zC E nn cc RX12 Ts) (hnm : (zEme E).name = "<init>") {a idx t : Nat} (G : zG E nn a 12 38) (hin : ∀ w ∈ u_ws RX12 TX12 38, w ∈ Ts) (hlink : Cond.fieldLink RX12 idx "PremiumHoursModel" "kinds" "[I" ∈ Ts) {v1 : zHp} (e : v1 = zst v a 15 (t : Int)) (d : decode cc pc = .ok (.putfield idx, 3)) (kk : zX E k n nn v1 (pc + 3) lo st) : zX E k n nn v pc lo (zr t :: zr a :: st) := z_putR (jj := 15) (Cn := RX12) (T := TX12) C tyX12_ok nmX12 G (by decide) rfl hin 15 rfl (by decide) rfl hlink rfl (Or.inr ⟨rfl, hnm, rfl⟩) (ty := .array (.int)) (by decide +kernel) (fun _ => rfl) (fun _ => rfl) d (fun v2 e2 => by rw [e2, ← e]; exact kk)
theorem pg_12_17 (C : zC E nn cc RX12 Ts) (hnm : (zEme E).name = "<init>") {a idx t : Nat} (G : zG E nn a 12 38) (hin : ∀ w ∈ u_ws RX12 TX12 38, w ∈ Ts) (hlink : Cond.fieldLink RX12 idx "PremiumHoursModel" "acts" "[I" ∈ Ts) {v1 : zHp} (e : v1 = zst v a 17 (t : Int)) (d : decode cc pc = .ok (.putfield idx, 3)) (kk : zX E k n nn v1 (pc + 3) lo st) : zX E k n nn v pc lo (zr t :: zr a :: st) := z_putR (jj := 17) (Cn := RX12) (T := TX12) C tyX12_ok nmX12 G (by decide) rfl hin 17 rfl (by decide) rfl hlink rfl (Or.inr ⟨rfl, hnm, rfl⟩) (ty := .array (.int)) (by decide +kernel) (fun _ => rfl) (fun _ => rfl) d (fun v2 e2 => by rw [e2, ← e]; exact kk)
theorem pg_12_18 (C : zC E nn cc RX12 Ts) (hnm : (zEme E).name = "<init>") {a idx t : Nat} (G : zG E nn a 12 38) (hin : ∀ w ∈ u_ws RX12 TX12 38, w ∈ Ts) (hlink : Cond.fieldLink RX12 idx "PremiumHoursModel" "paired" "[I" ∈ Ts) {v1 : zHp} (e : v1 = zst v a 18 (t : Int)) (d : decode cc pc = .ok (.putfield idx, 3)) (kk : zX E k n nn v1 (pc + 3) lo st) : zX E k n nn v pc lo (zr t :: zr a :: st) := z_putR (jj := 18) (Cn := RX12) (T := TX12) C tyX12_ok nmX12 G (by decide) rfl hin 18 rfl (by decide) rfl hlink rfl (Or.inr ⟨rfl, hnm, rfl⟩) (ty := .array (.int)) (by decide +kernel) (fun _ => rfl) (fun _ => rfl) d (fun v2 e2 => by rw [e2, ← e]; exact kk)
theorem pg_12_20 (C : zC E nn cc RX12 Ts) (hnm : (zEme E).name = "<init>") {a idx t : Nat} (G : zG E nn a 12 38) (hin : ∀ w ∈ u_ws RX12 TX12 38, w ∈ Ts) (hlink : Cond.fieldLink RX12 idx "PremiumHoursModel" "spanFrom" "[I" ∈ Ts) {v1 : zHp} (e : v1 = zst v a 20 (t : Int)) (d : decode cc pc = .ok (.putfield idx, 3)) (kk : zX E k n nn v1 (pc + 3) lo st) : zX E k n nn v pc lo (zr t :: zr a :: st) := z_putR (jj := 20) (Cn := RX12) (T := TX12) C tyX12_ok nmX12 G (by decide) rfl hin 20 rfl (by decide) rfl hlink rfl (Or.inr ⟨rfl, hnm, rfl⟩) (ty := .array (.int)) (by decide +kernel) (fun _ => rfl) (fun _ => rfl) d (fun v2 e2 => by rw [e2, ← e]; exact kk)
theorem pg_12_21 (C : zC E nn cc RX12 Ts) (hnm : (zEme E).name = "<init>") {a idx t : Nat} (G : zG E nn a 12 38) (hin : ∀ w ∈ u_ws RX12 TX12 38, w ∈ Ts) (hlink : Cond.fieldLink RX12 idx "PremiumHoursModel" "spanTo" "[I" ∈ Ts) {v1 : zHp} (e : v1 = zst v a 21 (t : Int)) (d : decode cc pc = .ok (.putfield idx, 3)) (kk : zX E k n nn v1 (pc + 3) lo st) : zX E k n nn v pc lo (zr t :: zr a :: st) := z_putR (jj := 21) (Cn := RX12) (T := TX12) C tyX12_ok nmX12 G (by decide) rfl hin 21 rfl (by decide) rfl hlink rfl (Or.inr ⟨rfl, hnm, rfl⟩) (ty := .array (.int)) (by decide +kernel) (fun _ => rfl) (fun _ => rfl) d (fun v2 e2 => by rw [e2, ← e]; exact kk)
theorem pg_12_22 (C : zC E nn cc RX12 Ts) (hnm : (zEme E).name = "<init>") {a idx t : Nat} (G : zG E nn a 12 38) (hin : ∀ w ∈ u_ws RX12 TX12 38, w ∈ Ts) (hlink : Cond.fieldLink RX12 idx "PremiumHoursModel" "worked" "[Z" ∈ Ts) {v1 : zHp} (e : v1 = zst v a 22 (t : Int)) (d : decode cc pc = .ok (.putfield idx, 3)) (kk : zX E k n nn v1 (pc + 3) lo st) : zX E k n nn v pc lo (zr t :: zr a :: st) := z_putR (jj := 22) (Cn := RX12) (T := TX12) C tyX12_ok nmX12 G (by decide) rfl hin 22 rfl (by decide) rfl hlink rfl (Or.inr ⟨rfl, hnm, rfl⟩) (ty := .array (.boolean)) (by decide +kernel) (fun _ => rfl) (fun _ => rfl) d (fun v2 e2 => by rw [e2, ← e]; exact kk)
theorem pg_12_24 (C : zC E nn cc RX12 Ts) (hnm : (zEme E).name = "<init>") {a idx t : Nat} (G : zG E nn a 12 38) (hin : ∀ w ∈ u_ws RX12 TX12 38, w ∈ Ts) (hlink : Cond.fieldLink RX12 idx "PremiumHoursModel" "quarters" "[I" ∈ Ts) {v1 : zHp} (e : v1 = zst v a 24 (t : Int)) (d : decode cc pc = .ok (.putfield idx, 3)) (kk : zX E k n nn v1 (pc + 3) lo st) : zX E k n nn v pc lo (zr t :: zr a :: st) := z_putR (jj := 24) (Cn := RX12) (T := TX12) C tyX12_ok nmX12 G (by decide) rfl hin 24 rfl (by decide) rfl hlink rfl (Or.inr ⟨rfl, hnm, rfl⟩) (ty := .array (.int)) (by decide +kernel) (fun _ => rfl) (fun _ => rfl) d (fun v2 e2 => by rw [e2, ← e]; exact kk)
theorem pg_12_25 (C : zC E nn cc RX12 Ts) (hnm : (zEme E).name = "<init>") {a idx t : Nat} (G : zG E nn a 12 38) (hin : ∀ w ∈ u_ws RX12 TX12 38, w ∈ Ts) (hlink : Cond.fieldLink RX12 idx "PremiumHoursModel" "may" "[I" ∈ Ts) {v1 : zHp} (e : v1 = zst v a 25 (t : Int)) (d : decode cc pc = .ok (.putfield idx, 3)) (kk : zX E k n nn v1 (pc + 3) lo st) : zX E k n nn v pc lo (zr t :: zr a :: st) := z_putR (jj := 25) (Cn := RX12) (T := TX12) C tyX12_ok nmX12 G (by decide) rfl hin 25 rfl (by decide) rfl hlink rfl (Or.inr ⟨rfl, hnm, rfl⟩) (ty := .array (.int)) (by decide +kernel) (fun _ => rfl) (fun _ => rfl) d (fun v2 e2 => by rw [e2, ← e]; exact kk)
theorem pg_12_26 (C : zC E nn cc RX12 Ts) (hnm : (zEme E).name = "<init>") {a idx t : Nat} (G : zG E nn a 12 38) (hin : ∀ w ∈ u_ws RX12 TX12 38, w ∈ Ts) (hlink : Cond.fieldLink RX12 idx "PremiumHoursModel" "best" "[I" ∈ Ts) {v1 : zHp} (e : v1 = zst v a 26 (t : Int)) (d : decode cc pc = .ok (.putfield idx, 3)) (kk : zX E k n nn v1 (pc + 3) lo st) : zX E k n nn v pc lo (zr t :: zr a :: st) := z_putR (jj := 26) (Cn := RX12) (T := TX12) C tyX12_ok nmX12 G (by decide) rfl hin 26 rfl (by decide) rfl hlink rfl (Or.inr ⟨rfl, hnm, rfl⟩) (ty := .array (.int)) (by decide +kernel) (fun _ => rfl) (fun _ => rfl) d (fun v2 e2 => by rw [e2, ← e]; exact kk)
theorem pg_12_27 (C : zC E nn cc RX12 Ts) (hnm : (zEme E).name = "<init>") {a idx t : Nat} (G : zG E nn a 12 38) (hin : ∀ w ∈ u_ws RX12 TX12 38, w ∈ Ts) (hlink : Cond.fieldLink RX12 idx "PremiumHoursModel" "comeAs" "[I" ∈ Ts) {v1 : zHp} (e : v1 = zst v a 27 (t : Int)) (d : decode cc pc = .ok (.putfield idx, 3)) (kk : zX E k n nn v1 (pc + 3) lo st) : zX E k n nn v pc lo (zr t :: zr a :: st) := z_putR (jj := 27) (Cn := RX12) (T := TX12) C tyX12_ok nmX12 G (by decide) rfl hin 27 rfl (by decide) rfl hlink rfl (Or.inr ⟨rfl, hnm, rfl⟩) (ty := .array (.int)) (by decide +kernel) (fun _ => rfl) (fun _ => rfl) d (fun v2 e2 => by rw [e2, ← e]; exact kk)
theorem pg_12_28 (C : zC E nn cc RX12 Ts) (hnm : (zEme E).name = "<init>") {a idx t : Nat} (G : zG E nn a 12 38) (hin : ∀ w ∈ u_ws RX12 TX12 38, w ∈ Ts) (hlink : Cond.fieldLink RX12 idx "PremiumHoursModel" "countAhead" "[I" ∈ Ts) {v1 : zHp} (e : v1 = zst v a 28 (t : Int)) (d : decode cc pc = .ok (.putfield idx, 3)) (kk : zX E k n nn v1 (pc + 3) lo st) : zX E k n nn v pc lo (zr t :: zr a :: st) := z_putR (jj := 28) (Cn := RX12) (T := TX12) C tyX12_ok nmX12 G (by decide) rfl hin 28 rfl (by decide) rfl hlink rfl (Or.inr ⟨rfl, hnm, rfl⟩) (ty := .array (.int)) (by decide +kernel) (fun _ => rfl) (fun _ => rfl) d (fun v2 e2 => by rw [e2, ← e]; exact kk)
theorem pg_12_29 (C : zC E nn cc RX12 Ts) (hnm : (zEme E).name = "<init>") {a idx t : Nat} (G : zG E nn a 12 38) (hin : ∀ w ∈ u_ws RX12 TX12 38, w ∈ Ts) (hlink : Cond.fieldLink RX12 idx "PremiumHoursModel" "most" "[I" ∈ Ts) {v1 : zHp} (e : v1 = zst v a 29 (t : Int)) (d : decode cc pc = .ok (.putfield idx, 3)) (kk : zX E k n nn v1 (pc + 3) lo st) : zX E k n nn v pc lo (zr t :: zr a :: st) := z_putR (jj := 29) (Cn := RX12) (T := TX12) C tyX12_ok nmX12 G (by decide) rfl hin 29 rfl (by decide) rfl hlink rfl (Or.inr ⟨rfl, hnm, rfl⟩) (ty := .array (.int)) (by decide +kernel) (fun _ => rfl) (fun _ => rfl) d (fun v2 e2 => by rw [e2, ← e]; exact kk)
theorem pg_12_30 (C : zC E nn cc RX12 Ts) (hnm : (zEme E).name = "<init>") {a idx t : Nat} (G : zG E nn a 12 38) (hin : ∀ w ∈ u_ws RX12 TX12 38, w ∈ Ts) (hlink : Cond.fieldLink RX12 idx "PremiumHoursModel" "weekCounts" "[I" ∈ Ts) {v1 : zHp} (e : v1 = zst v a 30 (t : Int)) (d : decode cc pc = .ok (.putfield idx, 3)) (kk : zX E k n nn v1 (pc + 3) lo st) : zX E k n nn v pc lo (zr t :: zr a :: st) := z_putR (jj := 30) (Cn := RX12) (T := TX12) C tyX12_ok nmX12 G (by decide) rfl hin 30 rfl (by decide) rfl hlink rfl (Or.inr ⟨rfl, hnm, rfl⟩) (ty := .array (.int)) (by decide +kernel) (fun _ => rfl) (fun _ => rfl) d (fun v2 e2 => by rw [e2, ← e]; exact kk)
theorem pg_12_31 (C : zC E nn cc RX12 Ts) (hnm : (zEme E).name = "<init>") {a idx t : Nat} (G : zG E nn a 12 38) (hin : ∀ w ∈ u_ws RX12 TX12 38, w ∈ Ts) (hlink : Cond.fieldLink RX12 idx "PremiumHoursModel" "weekPlain" "[I" ∈ Ts) {v1 : zHp} (e : v1 = zst v a 31 (t : Int)) (d : decode cc pc = .ok (.putfield idx, 3)) (kk : zX E k n nn v1 (pc + 3) lo st) : zX E k n nn v pc lo (zr t :: zr a :: st) := z_putR (jj := 31) (Cn := RX12) (T := TX12) C tyX12_ok nmX12 G (by decide) rfl hin 31 rfl (by decide) rfl hlink rfl (Or.inr ⟨rfl, hnm, rfl⟩) (ty := .array (.int)) (by decide +kernel) (fun _ => rfl) (fun _ => rfl) d (fun v2 e2 => by rw [e2, ← e]; exact kk)
theorem pg_12_34 (C : zC E nn cc RX12 Ts) (hnm : (zEme E).name = "<init>") {a idx t : Nat} (G : zG E nn a 12 38) (hin : ∀ w ∈ u_ws RX12 TX12 38, w ∈ Ts) (hlink : Cond.fieldLink RX12 idx "PremiumHoursModel" "keptWorked" "[Z" ∈ Ts) {v1 : zHp} (e : v1 = zst v a 34 (t : Int)) (d : decode cc pc = .ok (.putfield idx, 3)) (kk : zX E k n nn v1 (pc + 3) lo st) : zX E k n nn v pc lo (zr t :: zr a :: st) := z_putR (jj := 34) (Cn := RX12) (T := TX12) C tyX12_ok nmX12 G (by decide) rfl hin 34 rfl (by decide) rfl hlink rfl (Or.inr ⟨rfl, hnm, rfl⟩) (ty := .array (.boolean)) (by decide +kernel) (fun _ => rfl) (fun _ => rfl) d (fun v2 e2 => by rw [e2, ← e]; exact kk)
theorem pg_12_35 (C : zC E nn cc RX12 Ts) (hnm : (zEme E).name = "<init>") {a idx t : Nat} (G : zG E nn a 12 38) (hin : ∀ w ∈ u_ws RX12 TX12 38, w ∈ Ts) (hlink : Cond.fieldLink RX12 idx "PremiumHoursModel" "keptSum" "[I" ∈ Ts) {v1 : zHp} (e : v1 = zst v a 35 (t : Int)) (d : decode cc pc = .ok (.putfield idx, 3)) (kk : zX E k n nn v1 (pc + 3) lo st) : zX E k n nn v pc lo (zr t :: zr a :: st) := z_putR (jj := 35) (Cn := RX12) (T := TX12) C tyX12_ok nmX12 G (by decide) rfl hin 35 rfl (by decide) rfl hlink rfl (Or.inr ⟨rfl, hnm, rfl⟩) (ty := .array (.int)) (by decide +kernel) (fun _ => rfl) (fun _ => rfl) d (fun v2 e2 => by rw [e2, ← e]; exact kk)
theorem pg_12_36 (C : zC E nn cc RX12 Ts) (hnm : (zEme E).name = "<init>") {a idx t : Nat} (G : zG E nn a 12 38) (hin : ∀ w ∈ u_ws RX12 TX12 38, w ∈ Ts) (hlink : Cond.fieldLink RX12 idx "PremiumHoursModel" "isKept" "[Z" ∈ Ts) {v1 : zHp} (e : v1 = zst v a 36 (t : Int)) (d : decode cc pc = .ok (.putfield idx, 3)) (kk : zX E k n nn v1 (pc + 3) lo st) : zX E k n nn v pc lo (zr t :: zr a :: st) := z_putR (jj := 36) (Cn := RX12) (T := TX12) C tyX12_ok nmX12 G (by decide) rfl hin 36 rfl (by decide) rfl hlink rfl (Or.inr ⟨rfl, hnm, rfl⟩) (ty := .array (.boolean)) (by decide +kernel) (fun _ => rfl) (fun _ => rfl) d (fun v2 e2 => by rw [e2, ← e]; exact kk)
theorem pg_12_37 (C : zC E nn cc RX12 Ts) (hnm : (zEme E).name = "<init>") {a idx t : Nat} (G : zG E nn a 12 38) (hin : ∀ w ∈ u_ws RX12 TX12 38, w ∈ Ts) (hlink : Cond.fieldLink RX12 idx "PremiumHoursModel" "first" "[Z" ∈ Ts) {v1 : zHp} (e : v1 = zst v a 37 (t : Int)) (d : decode cc pc = .ok (.putfield idx, 3)) (kk : zX E k n nn v1 (pc + 3) lo st) : zX E k n nn v pc lo (zr t :: zr a :: st) := z_putR (jj := 37) (Cn := RX12) (T := TX12) C tyX12_ok nmX12 G (by decide) rfl hin 37 rfl (by decide) rfl hlink rfl (Or.inr ⟨rfl, hnm, rfl⟩) (ty := .array (.boolean)) (by decide +kernel) (fun _ => rfl) (fun _ => rfl) d (fun v2 e2 => by rw [e2, ← e]; exact kk)
end ZNEW
