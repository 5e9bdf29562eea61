/-! calls over the abstract heap; a method's start and end. My own text. -/
def zWS (D : va_G) (ids : Nat → ClassId) (b o : Nat) (zz : Prop) (nn : Nat) (v : zHp) (U : State) : Prop := va_P D vwCl (zwl ids b o nn v) U.heap ∧ va_K D vwCl (ztys ids) U ∧ (zz → U.heap.size = b + (o + nn))
def zQc (D : va_G) (ids : Nat → ClassId) (b o : Nat) (zz : Prop) (nn nn1 : Nat) (Pf : Prop) (ret : Option zAV) (v1 : zHp) (sz : Nat) : Array Value → State → Outcome → State → Prop := fun _ s0 oc t => (Pf ∧ oc = .returned (ret.map (zxv b)) ∧ zWS D ids b o zz nn1 v1 t) ∧ va_F (zA b o nn sz) s0 t
/-- a method's contract: with these arguments over this heap it returns this, and the heap is that -/
def zCT (l : Launch) (y : MethodName) (ws : List Cond) (rm : Room) (D : va_G) (ids : Nat → ClassId) (b o : Nat) (zz : Prop) (nn : Nat) (As : List zAV) (v : zHp) (nn1 : Nat) (Pf : Prop) (ret : Option zAV) (v1 : zHp) (mc ms : Nat) : Prop :=
  ∀ sz : Nat, Met l y ws rm (va_Pc (As.map (zxv b)) (fun U => U.heap.size = sz ∧ zWS D ids b o zz nn v U)) (zQc D ids b o zz nn nn1 Pf ret v1 sz) mc ms (zA b o nn sz)
theorem zWS.moved {D : va_G} {ids : Nat → ClassId} {b o : Nat} {zz : Prop} {nn : Nat} {v : zHp} {u U : State} (h : zWS D ids b o zz nn v u) (hh : U.heap = u.heap) (hvm : u.vm.Alike U.vm) : zWS D ids b o zz nn v U :=
  ⟨by rw [hh]; exact h.1, va_K.moved hvm h.2.1, fun z => by rw [hh]; exact h.2.2 z⟩
theorem zPre_blind {av : List Value} {sz : Nat} {D : va_G} {ids : Nat → ClassId} {b o : Nat} {zz : Prop} {nn : Nat} {v : zHp} : FrameBlind (va_Pc av (fun U => U.heap.size = sz ∧ zWS D ids b o zz nn v U)) := fun a U g mk q => by
  obtain ⟨q0, q1, q2⟩ := q
  exact ⟨q0, q1, q2.moved (u := U) (U := U.calling g mk a) rfl (Vm.Alike.refl U.vm)⟩
section ZCALLS
variable {E : zE} {nn : Nat} {cc : ByteArray} {own : String} {Ts : List Cond} {k n : Nat} {v : zHp} {pc : Nat} {lo : List (Option zAV)} {st stk : List zAV}
theorem z_after {sz mc ms nn1 : Nat} {Pf : Prop} {ret : Option zAV} {v1 : zHp} {a : Array Value} {H : Heap} {locs : List Loc} {ls : Array Slot} {st0 : List Value} (hsz : H.size = sz) (C : zC E nn cc own Ts) (hS : va_S (zEA E) (zEH E) H locs) (hl : lv_has ls (zEN E) (zpr (zEb E) lo))
    (hr : va_Run (zEp E) (zEl E) (zEe E) (zER E) (zEs E) (zEm E) (zEa E) (zEbe E) (zEme E) (zEc E) H locs k n mc ms (F0 (zEm E) pc ls st0) (st.map (zxv (zEb E))) (zQc (zED E) (zEi E) (zEb E) (zEo E) (zEz E) nn nn1 Pf ret v1 sz a) (zA (zEb E) (zEo E) nn sz))
    (kk : Pf → zX E (k + mc) (n + ms) nn1 v1 (pc + 3) lo (ret.toList ++ st)) : W (zEp E) (zEl E) (zEe E) (zER E) (zEs E) (zEm E) (zEa E) (zEbe E) (zEme E) (zEc E) H locs k n (zEQ E) (F0 (zEm E) pc ls st0) := by
  intro T hT X
  obtain ⟨v', st₀, t, T', L, h0, X', hL, e1, e2, ⟨⟨hpf, hv, hws⟩, hF⟩, stp⟩ := hr T hT X
  cases hv
  have hAA : ∀ q, zA (zEb E) (zEo E) nn sz q → (zEA E) q := by
    intro q hq
    rcases hq with ⟨h1, h2⟩ | h1
    · have := C.2.2.2.2.2.2.2.2 (q - zEb E - zEo E) (by omega)
      have e : zEb E + (zEo E + (q - zEb E - zEo E)) = q := by omega
      rwa [e] at this
    · exact C.2.2.2.2.2.2.2.1 q (Nat.le_trans hS.1 (by rw [hsz]; exact h1))
  obtain ⟨hz, hk⟩ := hF
  rw [h0] at hz hk
  have hS1 : va_S (zEA E) (zEH E) T'.heap (locs ++ L) := ⟨Nat.le_trans hS.1 (by rw [e1]; exact hz), fun q h1 h2 => by rw [e1, hk q (Nat.lt_of_lt_of_le h1 hS.1) (fun z => h2 (hAA q z))]; exact hS.2.1 q h1 h2, fun q hq => by
      rcases List.mem_append.mp hq with h | h
      · exact hS.2.2 q h
      · exact hAA _ (hL q h)⟩
  obtain ⟨t2, a1, b1⟩ := kk hpf T'.heap (locs ++ L) ls (by rw [e1]; exact hws.1) hS1 (fun z => by rw [e1]; exact hws.2.2 z) hl T' rfl X'
  refine ⟨t2, stp t2 ?_, b1⟩
  cases ret with
  | none => exact a1
  | some x => exact a1
theorem z_callV (C : zC E nn cc own Ts) {o : Nat} {zz : Prop} {R' : Room} (ho : zEo E = o) (hz : zEz E = zz) (hRm : zER E = R') {y : MethodName} {wsy ws' : List Cond} {rm : Room} {a ci N idx nA maxL mc ms nn1 : Nat} {Cn : String} {T : u_T} {bytes : ByteArray} {ret' : Option FieldType} {As : List zAV} {Pf : Prop} {ret : Option zAV} {v1 : zHp}
    (M : zCT (zEl E) y wsy rm (zED E) (zEi E) (zEb E) o zz nn (zr a :: As) v nn1 Pf ret v1 mc ms) (G : zG E nn a ci N) (hci : ci < 20) (hc : vwCl[ci]? = some (Cn, T, N)) (hG : GoodIn Ts (wsV own idx Cn y wsy)) (hw : wsy = .code y bytes maxL ret' :: ws')
    (hd : y.cls = Cn ∧ y.cls ≠ "java/lang/invoke/MethodHandle" ∧ y.cls ≠ "java/lang/invoke/VarHandle" ∧ (parseMethodDescriptor y.desc).map (fun d => d.parameters.length) = some nA) (hn : As.length = nA) (hR : (rm.cells = mc ∧ rm.slots = ms) ∧ (rm.frames + 1 ≤ R'.frames ∧ 8 + (maxL + 11) + rm.locals ≤ R'.locals) ∧ (k + mc ≤ R'.cells ∧ n + ms ≤ R'.slots)) (hst : stk = As.reverse ++ zr a :: st) (hl8 : st.length ≤ 8) (d : decode cc pc = .ok (.invokevirtual idx, 3))
    (kk : Pf → zX E (k + mc) (n + ms) nn1 v1 (pc + 3) lo (ret.toList ++ st)) : zX E k n nn v pc lo stk := by
  subst ho hz hRm hst
  obtain ⟨hk, h1, h2⟩ := id G
  intro H locs ls hP hS hZ hl
  obtain ⟨hx, hb, hown, hts, hK, hlocks, hml, hA, hAn⟩ := id C
  have hcat : ((st.map (zxv (zEb E))).map fun v => v.category).sum ≤ 8 := by
    have e : ∀ l : List zAV, ((l.map (zxv (zEb E))).map fun v => v.category).sum = l.length := by
      intro l
      induction l with
      | nil => rfl
      | cons x t ih => simp only [List.map_cons, List.sum_cons, List.length_cons, zxv_cat, ih]; omega
    rw [e]; exact hl8
  have hmap : (As.reverse ++ zr a :: st).map (zxv (zEb E)) = (As.map (zxv (zEb E))).reverse ++ .ref (zEb E + a) :: st.map (zxv (zEb E)) := by simp [zxv]
  rw [hmap]
  refine z_after (sz := H.size) (a := (Value.ref (zEb E + a) :: As.map (zxv (zEb E))).toArray) rfl C hS hl (va_runV ⟨hx, hb, hml, hown, hts⟩ (M H.size) (cwV nA hts hG hw hR.1.1 hR.1.2 hd hR.2.1) ⟨zPre_blind, va_recv hK hP hc (q0 := a - zEo E) (by rw [zwl_at h1 h2, hk, zec_obj hci]), fun U hU hW => ⟨rfl, by rw [hU], ⟨by rw [hU]; exact hP, va_K.moved hW.alike hK, fun z => by rw [hU]; exact hZ z⟩⟩⟩ rfl (by simpa using hn) hl.1 rfl (lv_room hcat) d hR.2.2) kk
theorem z_callS (C : zC E nn cc own Ts) {o : Nat} {zz : Prop} {R' : Room} (ho : zEo E = o) (hz : zEz E = zz) (hRm : zER E = R') {y : MethodName} {wsy ws' : List Cond} {rm : Room} {idx nA maxL mc ms nn1 : Nat} {Cn : String} {bytes : ByteArray} {ret' : Option FieldType} {As : List zAV} {Pf : Prop} {ret : Option zAV} {v1 : zHp}
    (M : zCT (zEl E) y wsy rm (zED E) (zEi E) (zEb E) o zz nn As v nn1 Pf ret v1 mc ms) (hG : GoodIn Ts (va_wsS own idx y wsy)) (hw : wsy = .code y bytes maxL ret' :: ws')
    (hd : y.cls = Cn ∧ y.cls ≠ "java/lang/invoke/MethodHandle" ∧ y.cls ≠ "java/lang/invoke/VarHandle" ∧ (parseMethodDescriptor y.desc).map (fun d => d.parameters.length) = some nA) (hn : As.length = nA) (hR : (rm.cells = mc ∧ rm.slots = ms) ∧ (rm.frames + 1 ≤ R'.frames ∧ 8 + (maxL + 11) + rm.locals ≤ R'.locals) ∧ (k + mc ≤ R'.cells ∧ n + ms ≤ R'.slots)) (hst : stk = As.reverse ++ st) (hl8 : st.length ≤ 8) (d : decode cc pc = .ok (.invokestatic idx, 3))
    (kk : Pf → zX E (k + mc) (n + ms) nn1 v1 (pc + 3) lo (ret.toList ++ st)) : zX E k n nn v pc lo stk := by
  subst ho hz hRm hst
  intro H locs ls hP hS hZ hl
  obtain ⟨hx, hb, hown, hts, hK, hlocks, hml, hA, hAn⟩ := id C
  have hcat : ((st.map (zxv (zEb E))).map fun v => v.category).sum ≤ 8 := by
    have e : ∀ l : List zAV, ((l.map (zxv (zEb E))).map fun v => v.category).sum = l.length := by
      intro l
      induction l with
      | nil => rfl
      | cons x t ih => simp only [List.map_cons, List.sum_cons, List.length_cons, zxv_cat, ih]; omega
    rw [e]; exact hl8
  have hmap : (As.reverse ++ st).map (zxv (zEb E)) = (As.map (zxv (zEb E))).reverse ++ st.map (zxv (zEb E)) := by simp
  rw [hmap]
  refine z_after (sz := H.size) (a := (As.map (zxv (zEb E))).toArray) rfl C hS hl (va_runS ⟨hx, hb, hml, hown, hts⟩ (M H.size) (va_cwS nA hts hG hw hR.1.1 hR.1.2 hd.2 hR.2.1) ⟨zPre_blind, fun U hU hW => ⟨rfl, by rw [hU], ⟨by rw [hU]; exact hP, va_K.moved hW.alike hK, fun z => by rw [hU]; exact hZ z⟩⟩⟩ rfl (by simpa using hn) hl.1 rfl (lv_room hcat) d hR.2.2) kk
theorem z_callI (C : zC E nn cc own Ts) {o : Nat} {zz : Prop} {R' : Room} (ho : zEo E = o) (hz : zEz E = zz) (hRm : zER E = R') {y : MethodName} {wsy ws' : List Cond} {rm : Room} {a idx nA maxL mc ms nn1 : Nat} {Cn : String} {bytes : ByteArray} {As : List zAV} {Pf : Prop} {v1 : zHp}
    (M : zCT (zEl E) y wsy rm (zED E) (zEi E) (zEb E) o zz nn (zr a :: As) v nn1 Pf none v1 mc ms) (hG : GoodIn Ts wsy) (hw : wsy = .code y bytes maxL none :: ws') (hini : Cond.initialized y.cls ∈ Ts) (hlk : Cond.methodLink own idx y ∈ Ts) (hinst : Cond.instanceMethod y ∈ Ts) (hnm : y.name = "<init>")
    (hd : y.cls = Cn ∧ y.cls ≠ "java/lang/invoke/MethodHandle" ∧ y.cls ≠ "java/lang/invoke/VarHandle" ∧ (parseMethodDescriptor y.desc).map (fun d => d.parameters.length) = some nA) (hn : As.length = nA) (hR : (rm.cells = mc ∧ rm.slots = ms) ∧ (rm.frames + 1 ≤ R'.frames ∧ 8 + (maxL + 11) + rm.locals ≤ R'.locals) ∧ (k + mc ≤ R'.cells ∧ n + ms ≤ R'.slots)) (hst : stk = As.reverse ++ zr a :: st) (hl8 : st.length ≤ 8) (d : decode cc pc = .ok (.invokespecial idx, 3))
    (kk : Pf → zX E (k + mc) (n + ms) nn1 v1 (pc + 3) lo st) : zX E k n nn v pc lo stk := by
  subst ho hz hRm hst
  intro H locs ls hP hS hZ hl
  obtain ⟨hx, hb, hown, hts, hK, hlocks, hml, hA, hAn⟩ := id C
  have hcat : ((st.map (zxv (zEb E))).map fun v => v.category).sum ≤ 8 := by
    have e : ∀ l : List zAV, ((l.map (zxv (zEb E))).map fun v => v.category).sum = l.length := by
      intro l
      induction l with
      | nil => rfl
      | cons x t ih => simp only [List.map_cons, List.sum_cons, List.length_cons, zxv_cat, ih]; omega
    rw [e]; exact hl8
  have hmap : (As.reverse ++ zr a :: st).map (zxv (zEb E)) = (As.map (zxv (zEb E))).reverse ++ .ref (zEb E + a) :: st.map (zxv (zEb E)) := by simp [zxv]
  rw [hmap]
  refine z_after (sz := H.size) (ret := none) (a := (Value.ref (zEb E + a) :: As.map (zxv (zEb E))).toArray) rfl C hS hl (va_runI ⟨hx, hb, hml, hown, hts⟩ (M H.size) (cwI nA hts hG hw hR.1.1 hR.1.2 (hts _ hini) (hts _ hlk) (hts _ hinst) hnm hd.2 hR.2.1) ⟨zPre_blind, fun U hU hW => ⟨rfl, by rw [hU], ⟨by rw [hU]; exact hP, va_K.moved hW.alike hK, fun z => by rw [hU]; exact hZ z⟩⟩⟩ rfl (by simpa using hn) hl.1 rfl (lv_room hcat) d hR.2.2) kk
theorem z_max (C : zC E nn cc own Ts) {R' : Room} (hRm : zER E = R') {idx : Nat} {x y : Int} (hx : zR x) (hy : zR y) (hw : Cond.methodLink own idx Lib.Math.max.name ∈ Ts ∧ Cond.static Lib.Math.max.name ∈ Ts ∧ Cond.initialized "java/lang/Math" ∈ Ts ∧ Cond.code Lib.Math.max.name Lib.Math.max.code 2 (some .int) ∈ Ts) (hR : 1 ≤ R'.frames ∧ st.length + 13 ≤ R'.locals ∧ k ≤ R'.cells ∧ n ≤ R'.slots) (d : decode cc pc = .ok (.invokestatic idx, 3)) (kk : zX E k n nn v (pc + 3) lo (zi (max x y) :: st)) : zX E k n nn v pc lo (zi y :: zi x :: st) := by
  subst hRm
  intro H locs ls hP hS hZ hl
  have e : ∀ l : List zAV, ((l.map (zxv (zEb E))).map fun v => v.category).sum = l.length := by
    intro l
    induction l with
    | nil => rfl
    | cons x t ih => simp only [List.map_cons, List.sum_cons, List.length_cons, zxv_cat, ih]; omega
  refine va_mmax C.1 C.2.1 (C.2.2.2.2.2.2.1.trans hl.1.symm) C.2.2.1 (C.2.2.2.1 _ hw.1) (C.2.2.2.1 _ hw.2.1) (C.2.2.2.1 _ hw.2.2.1) (C.2.2.2.1 _ hw.2.2.2) hR.1 (by rw [e]; exact hR.2.1) hR.2.2.1 hR.2.2.2 d ?_
  have e2 : (if zI x < zI y then zI y else zI x) = zI (max x y) := by
    by_cases h : x < y
    · rw [if_pos ((zI_lt hx hy).mpr h), Int.max_eq_right (by omega)]
    · rw [if_neg (fun q => h ((zI_lt hx hy).mp q)), Int.max_eq_left (by omega)]
  rw [e2]
  exact kk H locs ls hP hS hZ hl
theorem z_min (C : zC E nn cc own Ts) {R' : Room} (hRm : zER E = R') {idx : Nat} {x y : Int} (hx : zR x) (hy : zR y) (hw : Cond.methodLink own idx Lib.Math.min.name ∈ Ts ∧ Cond.static Lib.Math.min.name ∈ Ts ∧ Cond.initialized "java/lang/Math" ∈ Ts ∧ Cond.code Lib.Math.min.name Lib.Math.min.code 2 (some .int) ∈ Ts) (hR : 1 ≤ R'.frames ∧ st.length + 13 ≤ R'.locals ∧ k ≤ R'.cells ∧ n ≤ R'.slots) (d : decode cc pc = .ok (.invokestatic idx, 3)) (kk : zX E k n nn v (pc + 3) lo (zi (min x y) :: st)) : zX E k n nn v pc lo (zi y :: zi x :: st) := by
  subst hRm
  intro H locs ls hP hS hZ hl
  have e : ∀ l : List zAV, ((l.map (zxv (zEb E))).map fun v => v.category).sum = l.length := by
    intro l
    induction l with
    | nil => rfl
    | cons x t ih => simp only [List.map_cons, List.sum_cons, List.length_cons, zxv_cat, ih]; omega
  refine va_mmin C.1 C.2.1 (C.2.2.2.2.2.2.1.trans hl.1.symm) C.2.2.1 (C.2.2.2.1 _ hw.1) (C.2.2.2.1 _ hw.2.1) (C.2.2.2.1 _ hw.2.2.1) (C.2.2.2.1 _ hw.2.2.2) hR.1 (by rw [e]; exact hR.2.1) hR.2.2.1 hR.2.2.2 d ?_
  have e2 : (if zI y < zI x then zI y else zI x) = zI (min x y) := by
    by_cases h : y < x
    · rw [if_pos ((zI_lt hy hx).mpr h), Int.min_eq_right (by omega)]
    · rw [if_neg (fun q => h ((zI_lt hy hx).mp q)), Int.min_eq_left (by omega)]
  rw [e2]
  exact kk H locs ls hP hS hZ hl
theorem z_widen {k' n' : Nat} (h1 : k ≤ k') (h2 : n ≤ n') (kk : zX E k' n' nn v pc lo st) : zX E k n nn v pc lo st :=
  fun H locs ls hP hS hZ hl => W.widen h1 h2 (kk H locs ls hP hS hZ hl)
/-- how a walk may end: with this answer, over that heap -/
def zRet (E : zE) (cc : ByteArray) (mc ms nn1 : Nat) (ret' : Option FieldType) (Pf : Prop) (ret : Option zAV) (v1 : zHp) : Prop :=
  (∀ pc lo r ty, Pf → ret = some (zi r) → ret' = some ty → narrow ty (.int (zI r)) = .int (zI r) → decode cc pc = .ok (.ireturn, 1) → zX E mc ms nn1 v1 pc lo [zi r]) ∧
  (∀ pc lo, Pf → ret = none → ret' = none → decode cc pc = .ok (.return_, 1) → zX E mc ms nn1 v1 pc lo []) ∧
  (∀ pc lo a nm, Pf → ret = some (zr a) → ret' = some (.object nm) → decode cc pc = .ok (.areturn, 1) → zX E mc ms nn1 v1 pc lo [zr a])
theorem zpr_args {b : Nat} : ∀ (As : List zAV) (i m : Nat) (q : Nat × Value) (x : zAV), (As.map some ++ List.replicate m none)[q.1]? = some (some x) → q.2 = zxv b x → (i + q.1, q.2) ∈ lv_args i (As.map (zxv b))
  | [], i, m, q, x, h, _ => by
    have := List.eq_of_mem_replicate (List.mem_of_getElem? (by simpa using h))
    cases this
  | y :: As, i, m, q, x, h, hq => by
    obtain ⟨j, w⟩ := q
    show (i + j, w) ∈ (i, zxv b y) :: lv_args (if (zxv b y).category = 2 then i + 2 else i + 1) (As.map (zxv b))
    cases j with
    | zero =>
      have e : y = x := by simpa using h
      subst e
      rw [show w = zxv b y from hq]
      exact List.mem_cons_self
    | succ j =>
      rw [zxv_cat]
      have h3 := zpr_args As (i + 1) m (j, w) x (by simpa using h) hq
      have e : i + (j + 1) = i + 1 + j := by omega
      rw [e]
      exact List.mem_cons_of_mem _ h3
theorem lg_sl_len {b : Nat} (As : List zAV) : (lg_sl (As.map (zxv b))).length = As.length := by
  induction As with
  | nil => rfl
  | cons x t ih =>
    have e : lg_sl ((x :: t).map (zxv b)) = (if (zxv b x).category = 2 then [.val (zxv b x), .second] else [.val (zxv b x)]) ++ lg_sl (t.map (zxv b)) := rfl
    rw [e, zxv_cat, List.length_append, ih]
    simp
    omega
theorem zMet {l : Launch} {y : MethodName} {ws' ws : List Cond} {rm : Room} {D : va_G} {ids : Nat → ClassId} {b o : Nat} {zz : Prop} {As : List zAV} {nn1 : Nat} {Pf : Prop} {ret : Option zAV} {v1 : zHp} {mc ms maxL : Nat} {ret' : Option FieldType} (hy : plainName y.cls = true) (hw : ws = .code y cc maxL ret' :: ws') (hlen : As.length ≤ maxL) (hown : y.cls = own)
    (body : ∀ E : zE, zEl E = l → zER E = rm → zED E = D → zEi E = ids → zEb E = b → zEo E = o → zEz E = zz → zEN E = maxL → zC E nn cc own ws → (zEme E).name = y.name → zRet E cc mc ms nn1 ret' Pf ret v1 → zX E 0 0 nn v 0 (As.map some ++ List.replicate (maxL - As.length) none) []) : zCT l y ws rm D ids b o zz nn As v nn1 Pf ret v1 mc ms := by
  subst hown
  intro sz
  refine Met.ofW (cc := cc) (maxL := maxL) (ret := ret') hy hw ?_
  intro p e s m args below meth c s₁ B hml hv
  obtain ⟨rfl, hsz, hP, hK, hZ⟩ := hv
  have hx := B.exec
  have hb := B.bytes
  have hr := B.returns
  have hts := atoms_spec (ws := ws) B.pre
  have hownc : s.vm.findClass y.cls = some m.cls := findClass_of_methodNamed B.named
  have hlocks := B.notSynchronized
  have hl := lv_entry (As.map (zxv b)) (n := maxL) (by rw [lg_sl_len]; exact hlen)
  rw [lg_entry_eq]
  generalize (lg_sl (As.map (zxv b)) ++ List.replicate (maxL - (lg_sl (As.map (zxv b))).length) Slot.unset).toArray = ls at hl ⊢
  have hA : ∀ q : Nat, s.heap.size ≤ q → zA b o nn sz q := fun q h => Or.inr (by rw [← hsz]; exact h)
  have hAn : ∀ i, i < nn → zA b o nn sz (b + (o + i)) := fun i h => Or.inl ⟨by omega, by omega⟩
  refine body ((p, l, e, rm, s), (m, (As.map (zxv b)).toArray, below, meth, c), (D, ids, b, o, zz), (s.heap, zA b o nn sz, maxL, MQ below (zQc D ids b o zz nn nn1 Pf ret v1 sz) (As.map (zxv b)).toArray s mc ms (zA b o nn sz))) rfl rfl rfl rfl rfl rfl rfl rfl ⟨hx, hb, hownc, hts, hK, hlocks, hml, hA, hAn⟩ (name_of_methodNamed B.named B.method).1 ?_ s.heap [] ls hP va_S.rf hZ ⟨hl.1, hl.2.1, fun q hq => ?_⟩
  · refine ⟨fun pc lo r ty hpf e1 e2 hn hd => ?_, fun pc lo hpf e1 e2 hd => ?_, fun pc lo a nm hpf e1 e2 hd => ?_⟩
    · subst e1
      intro H locs ls hP1 hS1 hZ1 hl1
      show W p l e rm s m (As.map (zxv b)).toArray below meth c H locs mc ms (MQ below (zQc D ids b o zz nn nn1 Pf _ v1 sz) (As.map (zxv b)).toArray s mc ms (zA b o nn sz)) (F0 m pc ls [.int (zI r)])
      exact W.zret (v := zI r) hx hb (hr.trans e2) hn (fun t ht hW => ⟨⟨hpf, rfl, by rw [ht]; exact hP1, va_K.moved hW.alike hK, fun z => by rw [ht]; exact hZ1 z⟩, hS1.F ht⟩) hS1.2.2 hd
    · subst e1
      intro H locs ls hP1 hS1 hZ1 hl1
      show W p l e rm s m (As.map (zxv b)).toArray below meth c H locs mc ms (MQ below (zQc D ids b o zz nn nn1 Pf _ v1 sz) (As.map (zxv b)).toArray s mc ms (zA b o nn sz)) (F0 m pc ls [])
      exact W.vret hx hb (hr.trans e2) (fun t ht hW => ⟨⟨hpf, rfl, by rw [ht]; exact hP1, va_K.moved hW.alike hK, fun z => by rw [ht]; exact hZ1 z⟩, hS1.F ht⟩) hS1.2.2 hd
    · subst e1
      intro H locs ls hP1 hS1 hZ1 hl1
      show W p l e rm s m (As.map (zxv b)).toArray below meth c H locs mc ms (MQ below (zQc D ids b o zz nn nn1 Pf _ v1 sz) (As.map (zxv b)).toArray s mc ms (zA b o nn sz)) (F0 m pc ls [.ref (b + a)])
      exact W.aret (v := .ref (b + a)) hx hb (hr.trans e2) (Or.inl ⟨nm, rfl⟩) (Or.inr ⟨_, rfl⟩) (fun t ht hW => ⟨⟨hpf, rfl, by rw [ht]; exact hP1, va_K.moved hW.alike hK, fun z => by rw [ht]; exact hZ1 z⟩, hS1.F ht⟩) hS1.2.2 hd
  · obtain ⟨x, h1, h2⟩ := zpr_mem.mp hq
    have h3 := zpr_args (b := b) As 0 (maxL - As.length) q x h1 h2
    rw [Nat.zero_add] at h3
    exact hl.2.2 q h3
end ZCALLS
