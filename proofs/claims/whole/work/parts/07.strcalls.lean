/-! methods that look at the String constants: start, calls, rows. By program out of part 05. -/
def zCTS (l : Launch) (y : MethodName) (ws : List Cond) (rm : Room) (D : va_G) (ids : Nat → ClassId) (b o : Nat) (zz : Prop) (ad adV : Nat → Nat) (nn : Nat) (As : List zAV) (v : zHp) (nn1 : Nat) (Pf : Prop) (ret : Option zAV) (v1 : zHp) (mc ms : Nat) : Prop :=
  ∀ sz : Nat, Met l y ws rm (va_Pc (As.map (zxv b)) (fun U => U.heap.size = sz ∧ zWS D ids b o zz nn v U ∧ zStr ad adV (zA b o nn sz) U U.heap)) (zQc D ids b o zz nn nn1 Pf ret v1 sz) mc ms (zA b o nn sz)
theorem zPreS_blind {av : List Value} {sz : Nat} {D : va_G} {ids : Nat → ClassId} {b o : Nat} {zz : Prop} {ad adV : Nat → Nat} {nn : Nat} {v : zHp} : FrameBlind (va_Pc av (fun U => U.heap.size = sz ∧ zWS D ids b o zz nn v U ∧ zStr ad adV (zA b o nn sz) U U.heap)) := fun a U g mk q => by
  obtain ⟨q0, q1, q2, q3⟩ := q
  exact ⟨q0, q1, q2.moved (u := U) (U := U.calling g mk a) rfl (Vm.Alike.refl U.vm), q3.call⟩
section ZSTR
variable {E : zE} {nn : Nat} {cc : ByteArray} {own : String} {Ts : List Cond} {k n : Nat} {v : zHp} {pc : Nat} {lo : List (Option zAV)} {st stk : List zAV} {ad adV : Nat → Nat}
theorem zAA {E : zE} {nn : Nat} {cc : ByteArray} {own : String} {Ts : List Cond} {H : Heap} {locs : List Loc} (C : zC E nn cc own Ts) (hS : va_S (zEA E) (zEH E) H locs) : ∀ q, zA (zEb E) (zEo E) nn H.size q → (zEA E) q := by
  intro q hq
  rcases hq with ⟨h1, h2⟩ | h1
  · have := C.2.2.2.2.2.2.2.2 (q - zEb E - zEo E) (by omega)
    have e : zEb E + (zEo E + (q - zEb E - zEo E)) = q := by omega
    rwa [e] at this
  · exact C.2.2.2.2.2.2.2.1 q (Nat.le_trans hS.1 h1)
theorem zMetS {l : Launch} {y : MethodName} {ws' ws : List Cond} {rm : Room} {D : va_G} {ids : Nat → ClassId} {b o : Nat} {zz : Prop} {As : List zAV} {nn1 : Nat} {Pf : Prop} {ret : Option zAV} {v1 : zHp} {mc ms maxL : Nat} {ret' : Option FieldType} (hy : plainName y.cls = true) (hw : ws = .code y cc maxL ret' :: ws') (hlen : As.length ≤ maxL) (hown : y.cls = own)
    (body : ∀ E : zE, zEl E = l → zER E = rm → zED E = D → zEi E = ids → zEb E = b → zEo E = o → zEz E = zz → zEN E = maxL → zC E nn cc own ws → zStr ad adV (zEA E) (zEs E) (zEH E) ∧ zEH E = (zEs E).heap → (zEme E).name = y.name → zRet E cc mc ms nn1 ret' Pf ret v1 → zX E 0 0 nn v 0 (As.map some ++ List.replicate (maxL - As.length) none) []) : zCTS l y ws rm D ids b o zz ad adV nn As v nn1 Pf ret v1 mc ms := by
  subst hown
  intro sz
  refine Met.ofW (cc := cc) (maxL := maxL) (ret := ret') hy hw ?_
  intro p e s m args below meth c s₁ B hml hv
  obtain ⟨rfl, hsz, ⟨hP, hK, hZ⟩, hZs⟩ := hv
  have hx := B.exec
  have hb := B.bytes
  have hr := B.returns
  have hts := atoms_spec (ws := ws) B.pre
  have hownc : s.vm.findClass y.cls = some m.cls := findClass_of_methodNamed B.named
  have hlocks := B.notSynchronized
  have hl := lv_entry (As.map (zxv b)) (n := maxL) (by rw [lg_sl_len]; exact hlen)
  rw [lg_entry_eq]
  generalize (lg_sl (As.map (zxv b)) ++ List.replicate (maxL - (lg_sl (As.map (zxv b))).length) Slot.unset).toArray = ls at hl ⊢
  have hA : ∀ q : Nat, s.heap.size ≤ q → zA b o nn sz q := fun q h => Or.inr (by rw [← hsz]; exact h)
  have hAn : ∀ i, i < nn → zA b o nn sz (b + (o + i)) := fun i h => Or.inl ⟨by omega, by omega⟩
  refine body ((p, l, e, rm, s), (m, (As.map (zxv b)).toArray, below, meth, c), (D, ids, b, o, zz), (s.heap, zA b o nn sz, maxL, MQ below (zQc D ids b o zz nn nn1 Pf ret v1 sz) (As.map (zxv b)).toArray s mc ms (zA b o nn sz))) rfl rfl rfl rfl rfl rfl rfl rfl ⟨hx, hb, hownc, hts, hK, hlocks, hml, hA, hAn⟩ ⟨hZs, rfl⟩ (name_of_methodNamed B.named B.method).1 ?_ s.heap [] ls hP va_S.rf hZ ⟨hl.1, hl.2.1, fun q hq => ?_⟩
  · refine ⟨fun pc lo r ty hpf e1 e2 hn hd => ?_, fun pc lo hpf e1 e2 hd => ?_, fun pc lo a nm hpf e1 e2 hd => ?_⟩
    · subst e1
      intro H locs ls hP1 hS1 hZ1 hl1
      show W p l e rm s m (As.map (zxv b)).toArray below meth c H locs mc ms (MQ below (zQc D ids b o zz nn nn1 Pf _ v1 sz) (As.map (zxv b)).toArray s mc ms (zA b o nn sz)) (F0 m pc ls [.int (zI r)])
      exact W.zret (v := zI r) hx hb (hr.trans e2) hn (fun t ht hW => ⟨⟨hpf, rfl, by rw [ht]; exact hP1, va_K.moved hW.alike hK, fun z => by rw [ht]; exact hZ1 z⟩, hS1.F ht⟩) hS1.2.2 hd
    · subst e1
      intro H locs ls hP1 hS1 hZ1 hl1
      show W p l e rm s m (As.map (zxv b)).toArray below meth c H locs mc ms (MQ below (zQc D ids b o zz nn nn1 Pf _ v1 sz) (As.map (zxv b)).toArray s mc ms (zA b o nn sz)) (F0 m pc ls [])
      exact W.vret hx hb (hr.trans e2) (fun t ht hW => ⟨⟨hpf, rfl, by rw [ht]; exact hP1, va_K.moved hW.alike hK, fun z => by rw [ht]; exact hZ1 z⟩, hS1.F ht⟩) hS1.2.2 hd
    · subst e1
      intro H locs ls hP1 hS1 hZ1 hl1
      show W p l e rm s m (As.map (zxv b)).toArray below meth c H locs mc ms (MQ below (zQc D ids b o zz nn nn1 Pf _ v1 sz) (As.map (zxv b)).toArray s mc ms (zA b o nn sz)) (F0 m pc ls [.ref (b + a)])
      exact W.aret (v := .ref (b + a)) hx hb (hr.trans e2) (Or.inl ⟨nm, rfl⟩) (Or.inr ⟨_, rfl⟩) (fun t ht hW => ⟨⟨hpf, rfl, by rw [ht]; exact hP1, va_K.moved hW.alike hK, fun z => by rw [ht]; exact hZ1 z⟩, hS1.F ht⟩) hS1.2.2 hd
  · obtain ⟨x, h1, h2⟩ := zpr_mem.mp hq
    have h3 := zpr_args (b := b) As 0 (maxL - As.length) q x h1 h2
    rw [Nat.zero_add] at h3
    exact hl.2.2 q h3
theorem z_callVS (C : zC E nn cc own Ts) {o : Nat} {zz : Prop} {R' : Room} (hZs : zStr ad adV (zEA E) (zEs E) (zEH E)) (ho : zEo E = o) (hz : zEz E = zz) (hRm : zER E = R') {y : MethodName} {wsy ws' : List Cond} {rm : Room} {a ci N idx nA maxL mc ms nn1 : Nat} {Cn : String} {T : u_T} {bytes : ByteArray} {ret' : Option FieldType} {As : List zAV} {Pf : Prop} {ret : Option zAV} {v1 : zHp}
    (M : zCTS (zEl E) y wsy rm (zED E) (zEi E) (zEb E) o zz ad adV nn (zr a :: As) v nn1 Pf ret v1 mc ms) (G : zG E nn a ci N) (hci : ci < 20) (hc : vwCl[ci]? = some (Cn, T, N)) (hG : GoodIn Ts (wsV own idx Cn y wsy)) (hw : wsy = .code y bytes maxL ret' :: ws')
    (hd : y.cls = Cn ∧ y.cls ≠ "java/lang/invoke/MethodHandle" ∧ y.cls ≠ "java/lang/invoke/VarHandle" ∧ (parseMethodDescriptor y.desc).map (fun d => d.parameters.length) = some nA) (hn : As.length = nA) (hR : (rm.cells = mc ∧ rm.slots = ms) ∧ (rm.frames + 1 ≤ R'.frames ∧ 8 + (maxL + 11) + rm.locals ≤ R'.locals) ∧ (k + mc ≤ R'.cells ∧ n + ms ≤ R'.slots)) (hst : stk = As.reverse ++ zr a :: st) (hl8 : st.length ≤ 8) (d : decode cc pc = .ok (.invokevirtual idx, 3))
    (kk : Pf → zX E (k + mc) (n + ms) nn1 v1 (pc + 3) lo (ret.toList ++ st)) : zX E k n nn v pc lo stk := by
  subst ho hz hRm hst
  obtain ⟨hk, h1, h2⟩ := id G
  intro H locs ls hP hS hZ hl
  obtain ⟨hx, hb, hown, hts, hK, hlocks, hml, hA, hAn⟩ := id C
  have hcat : ((st.map (zxv (zEb E))).map fun v => v.category).sum ≤ 8 := by
    have e : ∀ l : List zAV, ((l.map (zxv (zEb E))).map fun v => v.category).sum = l.length := by
      intro l
      induction l with
      | nil => rfl
      | cons x t ih => simp only [List.map_cons, List.sum_cons, List.length_cons, zxv_cat, ih]; omega
    rw [e]; exact hl8
  have hmap : (As.reverse ++ zr a :: st).map (zxv (zEb E)) = (As.map (zxv (zEb E))).reverse ++ .ref (zEb E + a) :: st.map (zxv (zEb E)) := by simp [zxv]
  rw [hmap]
  refine z_after (sz := H.size) (a := (Value.ref (zEb E + a) :: As.map (zxv (zEb E))).toArray) rfl C hS hl (va_runV ⟨hx, hb, hml, hown, hts⟩ (M H.size) (cwV nA hts hG hw hR.1.1 hR.1.2 hd hR.2.1) ⟨zPreS_blind, va_recv hK hP hc (q0 := a - zEo E) (by rw [zwl_at h1 h2, hk, zec_obj hci]), fun U hU hW => ⟨rfl, by rw [hU], ⟨by rw [hU]; exact hP, va_K.moved hW.alike hK, fun z => by rw [hU]; exact hZ z⟩, by rw [hU]; exact ((hZs.kept hS.2.1).narrow (zAA C hS)).warm hW⟩⟩ rfl (by simpa using hn) hl.1 rfl (lv_room hcat) d hR.2.2) kk
theorem z_callSS (C : zC E nn cc own Ts) {o : Nat} {zz : Prop} {R' : Room} (hZs : zStr ad adV (zEA E) (zEs E) (zEH E)) (ho : zEo E = o) (hz : zEz E = zz) (hRm : zER E = R') {y : MethodName} {wsy ws' : List Cond} {rm : Room} {idx nA maxL mc ms nn1 : Nat} {Cn : String} {bytes : ByteArray} {ret' : Option FieldType} {As : List zAV} {Pf : Prop} {ret : Option zAV} {v1 : zHp}
    (M : zCTS (zEl E) y wsy rm (zED E) (zEi E) (zEb E) o zz ad adV nn As v nn1 Pf ret v1 mc ms) (hG : GoodIn Ts (va_wsS own idx y wsy)) (hw : wsy = .code y bytes maxL ret' :: ws')
    (hd : y.cls = Cn ∧ y.cls ≠ "java/lang/invoke/MethodHandle" ∧ y.cls ≠ "java/lang/invoke/VarHandle" ∧ (parseMethodDescriptor y.desc).map (fun d => d.parameters.length) = some nA) (hn : As.length = nA) (hR : (rm.cells = mc ∧ rm.slots = ms) ∧ (rm.frames + 1 ≤ R'.frames ∧ 8 + (maxL + 11) + rm.locals ≤ R'.locals) ∧ (k + mc ≤ R'.cells ∧ n + ms ≤ R'.slots)) (hst : stk = As.reverse ++ st) (hl8 : st.length ≤ 8) (d : decode cc pc = .ok (.invokestatic idx, 3))
    (kk : Pf → zX E (k + mc) (n + ms) nn1 v1 (pc + 3) lo (ret.toList ++ st)) : zX E k n nn v pc lo stk := by
  subst ho hz hRm hst
  intro H locs ls hP hS hZ hl
  obtain ⟨hx, hb, hown, hts, hK, hlocks, hml, hA, hAn⟩ := id C
  have hcat : ((st.map (zxv (zEb E))).map fun v => v.category).sum ≤ 8 := by
    have e : ∀ l : List zAV, ((l.map (zxv (zEb E))).map fun v => v.category).sum = l.length := by
      intro l
      induction l with
      | nil => rfl
      | cons x t ih => simp only [List.map_cons, List.sum_cons, List.length_cons, zxv_cat, ih]; omega
    rw [e]; exact hl8
  have hmap : (As.reverse ++ st).map (zxv (zEb E)) = (As.map (zxv (zEb E))).reverse ++ st.map (zxv (zEb E)) := by simp
  rw [hmap]
  refine z_after (sz := H.size) (a := (As.map (zxv (zEb E))).toArray) rfl C hS hl (va_runS ⟨hx, hb, hml, hown, hts⟩ (M H.size) (va_cwS nA hts hG hw hR.1.1 hR.1.2 hd.2 hR.2.1) ⟨zPreS_blind, fun U hU hW => ⟨rfl, by rw [hU], ⟨by rw [hU]; exact hP, va_K.moved hW.alike hK, fun z => by rw [hU]; exact hZ z⟩, by rw [hU]; exact ((hZs.kept hS.2.1).narrow (zAA C hS)).warm hW⟩⟩ rfl (by simpa using hn) hl.1 rfl (lv_room hcat) d hR.2.2) kk
theorem zc_VS (C : zC E nn cc own Ts) {o : Nat} {zz : Prop} {R' : Room} (hZs : zStr ad adV (zEA E) (zEs E) (zEH E)) (ho : zEo E = o) (hz : zEz E = zz) (hRm : zER E = R') {y : MethodName} {wsy ws' : List Cond} {rm : Room} {a ci N idx nA maxL : Nat} {Cn : String} {T : u_T} {bytes : ByteArray} {ret' : Option FieldType} {As : List zAV} {Pf : Prop} {ret : Option zAV} {v1 : zHp}
    (M : zCTS (zEl E) y wsy rm (zED E) (zEi E) (zEb E) o zz ad adV nn (zr a :: As) v nn Pf ret v1 0 0) (G : zG E nn a ci N) (hci : ci < 20) (hc : vwCl[ci]? = some (Cn, T, N)) (hG : GoodIn Ts (wsV own idx Cn y wsy)) (hw : wsy = .code y bytes maxL ret' :: ws')
    (hd : y.cls = Cn ∧ y.cls ≠ "java/lang/invoke/MethodHandle" ∧ y.cls ≠ "java/lang/invoke/VarHandle" ∧ (parseMethodDescriptor y.desc).map (fun d => d.parameters.length) = some nA) (hn : As.length = nA) (hR0 : rm.cells = 0 ∧ rm.slots = 0) (hR : rm.frames + 1 ≤ R'.frames ∧ 8 + (maxL + 11) + rm.locals ≤ R'.locals) (st : List zAV) (hst : stk = As.reverse ++ zr a :: st) (hl8 : st.length ≤ 8) (d : decode cc pc = .ok (.invokevirtual idx, 3))
    (stk' : List zAV) (hs' : ret.toList ++ st = stk') (kk : Pf → zX E 0 0 nn v1 (pc + 3) lo stk') : zX E 0 0 nn v pc lo stk := by
  subst hs'
  exact z_callVS C hZs ho hz hRm M G hci hc hG hw hd hn ⟨hR0, hR, Nat.zero_le _, Nat.zero_le _⟩ hst hl8 d kk
theorem zc_SS (C : zC E nn cc own Ts) {o : Nat} {zz : Prop} {R' : Room} (hZs : zStr ad adV (zEA E) (zEs E) (zEH E)) (ho : zEo E = o) (hz : zEz E = zz) (hRm : zER E = R') {y : MethodName} {wsy ws' : List Cond} {rm : Room} {idx nA maxL : Nat} {Cn : String} {bytes : ByteArray} {ret' : Option FieldType} {As : List zAV} {Pf : Prop} {ret : Option zAV} {v1 : zHp}
    (M : zCTS (zEl E) y wsy rm (zED E) (zEi E) (zEb E) o zz ad adV nn As v nn Pf ret v1 0 0) (hG : GoodIn Ts (va_wsS own idx y wsy)) (hw : wsy = .code y bytes maxL ret' :: ws')
    (hd : y.cls = Cn ∧ y.cls ≠ "java/lang/invoke/MethodHandle" ∧ y.cls ≠ "java/lang/invoke/VarHandle" ∧ (parseMethodDescriptor y.desc).map (fun d => d.parameters.length) = some nA) (hn : As.length = nA) (hR0 : rm.cells = 0 ∧ rm.slots = 0) (hR : rm.frames + 1 ≤ R'.frames ∧ 8 + (maxL + 11) + rm.locals ≤ R'.locals) (st : List zAV) (hst : stk = As.reverse ++ st) (hl8 : st.length ≤ 8) (d : decode cc pc = .ok (.invokestatic idx, 3))
    (stk' : List zAV) (hs' : ret.toList ++ st = stk') (kk : Pf → zX E 0 0 nn v1 (pc + 3) lo stk') : zX E 0 0 nn v pc lo stk := by
  subst hs'
  exact z_callSS C hZs ho hz hRm M hG hw hd hn ⟨hR0, hR, Nat.zero_le _, Nat.zero_le _⟩ hst hl8 d kk
theorem z_ldcS (C : zC E nn cc RX6 Ts) (hZs : zStr ad adV (zEA E) (zEs E) (zEH E)) {idx i : Nat} (hi : i < 14) (e : zsIdx.getD i 0 = idx) (d : decode cc pc = .ok (.ldc idx, 2)) (kk : zX E k n nn v (pc + 2) lo (zs (ad i) :: st)) : zX E k n nn v pc lo st := by
  subst e
  exact fun H locs ls hP hS hZ hl => va_ldcS C.1 C.2.1 C.2.2.1 (hZs.2.1 i hi) d (kk H locs ls hP hS hZ hl)
theorem z_aloadS_n (C : zC E nn cc own Ts) {q : Fin 4} (d : decode cc pc = .ok (.aload_n q, 1)) {a : Nat} (h : lo[(q : Nat)]? = some (some (zs a))) (kk : zX E k n nn v (pc + 1) lo (zs a :: st)) : zX E k n nn v pc lo st :=
  fun H locs ls hP hS hZ hl => lv_aload_n C.1 C.2.1 d rfl (z_at hl h) (kk H locs ls hP hS hZ hl)
theorem zcat (b : Nat) (st : List zAV) (h : st.length ≤ 8) : ((st.map (zxv b)).map fun v => v.category).sum ≤ 8 := by
  have e : ∀ l : List zAV, ((l.map (zxv b)).map fun v => v.category).sum = l.length := by
    intro l
    induction l with
    | nil => rfl
    | cons x t ih => simp only [List.map_cons, List.sum_cons, List.length_cons, zxv_cat, ih]; omega
  rw [e]
  exact h
theorem z_slen (C : zC E nn cc own Ts) (hZs : zStr ad adV (zEA E) (zEs E) (zEH E)) {R' : Room} (hRm : zER E = R') {i idx : Nat} (hi : i < 14) (hG : GoodIn Ts (wsV own idx RJ0 yJ0_length_8abf5 vsJ0_length_8abf5)) (hR : 2 ≤ R'.frames ∧ 40 ≤ R'.locals) (hl8 : st.length ≤ 8) (d : decode cc pc = .ok (.invokevirtual idx, 3)) (kk : zX E k n nn v (pc + 3) lo (zi (zsl i) :: st)) (hf : k ≤ R'.cells ∧ n ≤ R'.slots) (hH : zEH E = (zEs E).heap) : zX E k n nn v pc lo (zs (ad i) :: st) := by
  subst hRm
  intro H locs ls hP hS hZ hl
  have hZ0 := hZs
  rw [hH] at hZ0
  have hS0 := hS
  rw [hH] at hS0
  have hZ1 := (hZs.kept hS.2.1)
  refine zh_after (ret := some (.int (zI (zsl i)))) (rest := st.map (zxv (zEb E))) (a := #[.ref (ad i)]) (va_runV (As := []) (b := ad i) ⟨C.1, C.2.1, C.2.2.2.2.2.2.1, C.2.2.1, C.2.2.2.1⟩ (zqJ0n (zEl E) (zEA E) ad adV i hi) (cwV 0 C.2.2.2.1 hG rfl rfl rfl pJ0_length_8abf5 ⟨hR.1, hR.2⟩) ⟨fun a U g mk h => ⟨h.1, h.2.call⟩, vk_recv hZ0.1 hi hS0, fun U hU hW => ⟨rfl, by dsimp only; rw [hU]; exact hZ1.warm hW⟩⟩ rfl rfl hl.1 rfl (lv_room (zcat _ st hl8)) d hf) ?_
  exact kk H locs ls hP hS hZ hl
theorem z_sch (C : zC E nn cc own Ts) (hZs : zStr ad adV (zEA E) (zEs E) (zEH E)) {R' : Room} (hRm : zER E = R') {i idx : Nat} {c : Int} (hi : i < 14) (q : 0 ≤ c ∧ c < zsl i) (hG : GoodIn Ts (wsV own idx RJ0 yJ0_charAt_5068e vsJ0_charAt_5068e)) (hR : 4 ≤ R'.frames ∧ 85 ≤ R'.locals) (hl8 : st.length ≤ 8) (d : decode cc pc = .ok (.invokevirtual idx, 3)) (kk : zX E k n nn v (pc + 3) lo (zi (zsc i c) :: st)) (hf : k ≤ R'.cells ∧ n ≤ R'.slots) (hH : zEH E = (zEs E).heap) : zX E k n nn v pc lo (zi c :: zs (ad i) :: st) := by
  subst hRm
  intro H locs ls hP hS hZ hl
  have hZ0 := hZs
  rw [hH] at hZ0
  have hS0 := hS
  rw [hH] at hS0
  have hZ1 := (hZs.kept hS.2.1)
  refine zh_after (ret := some (.int (zI (zsc i c)))) (rest := st.map (zxv (zEb E))) (a := #[.ref (ad i), .int (zI c)]) (va_runV (As := [.int (zI c)]) (b := ad i) ⟨C.1, C.2.1, C.2.2.2.2.2.2.1, C.2.2.1, C.2.2.2.1⟩ (zqJ0h (zEl E) (zEA E) ad adV i hi c q.1 q.2) (cwV 1 C.2.2.2.1 hG rfl rfl rfl pJ0_charAt_5068e ⟨hR.1, hR.2⟩) ⟨fun a U g mk h => ⟨h.1, h.2.call⟩, vk_recv hZ0.1 hi hS0, fun U hU hW => ⟨rfl, by dsimp only; rw [hU]; exact hZ1.warm hW⟩⟩ rfl rfl hl.1 rfl (lv_room (zcat _ st hl8)) d hf) ?_
  exact kk H locs ls hP hS hZ hl
end ZSTR
