/-! the law's two callers that catch. By wip/whole/genlawstat.py. -/
abbrev lL_premium : List (Nat × Instr × Nat) := [(0, .aload_n 3, 1), (1, .iconst 0, 1), (2, .aload_n 0, 1), (3, .iload_n 1, 1), (4, .iload_n 2, 1), (5, .invokevirtual 7, 3), (8, .i2l, 1), (9, .lastore, 1), (10, .goto 7, 3), (13, .astore 4, 2), (15, .iconst 1, 1), (16, .ireturn, 1), (17, .iconst 0, 1), (18, .ireturn, 1)]
set_option maxRecDepth 100000 in
theorem tL_premium : zdec cL_premium lL_premium = true := by decide +kernel
abbrev lL_quarter : List (Nat × Instr × Nat) := [(0, .aload 4, 2), (2, .iconst 0, 1), (3, .aload_n 0, 1), (4, .iload_n 1, 1), (5, .iload_n 2, 1), (6, .iload_n 3, 1), (7, .invokevirtual 15, 3), (10, .i2l, 1), (11, .lastore, 1), (12, .goto 7, 3), (15, .astore 5, 2), (17, .iconst 1, 1), (18, .ireturn, 1), (19, .iconst 0, 1), (20, .ireturn, 1)]
set_option maxRecDepth 100000 in
theorem tL_quarter : zdec cL_quarter lL_quarter = true := by decide +kernel
abbrev zOut (idJ : ClassId) (qa : Nat) (g : Nat → Int64) : va_W := [(qa, .inl (idJ, 1, .inr (.inl g)))]
def ztysL (ids : Nat → ClassId) (idJ : ClassId) : List (ClassId × FieldType) := ztys ids ++ [(idJ, .long)]
def zAL (b qa sz : Nat) : Nat → Prop := fun q => zA b 0 137 sz q ∨ q = qa
def zPL (D : va_G) (ids : Nat → ClassId) (idJ : ClassId) (b qa sz : Nat) (v : zHp) (g : Nat → Int64) (U : State) : Prop := U.heap.size = sz ∧ (va_P D vwCl (zwl ids b 0 137 v ++ zOut idJ qa g) U.heap ∧ va_K D vwCl (ztysL ids idJ) U) ∧ zTw (zAL b qa sz) U U.heap
def zQL (D : va_G) (ids : Nat → ClassId) (idJ : ClassId) (b qa sz : Nat) (r : Int) (v : zHp) (g : Nat → Int64) : Array Value → State → Outcome → State → Prop := fun _ s0 oc t => (zV 0 137 v ∧ oc = .returned (some (.int (zI r))) ∧ va_P D vwCl (zwl ids b 0 137 v ++ zOut idJ qa g) t.heap) ∧ va_F (zAL b qa sz) s0 t
def zCTL (l : Launch) (y : MethodName) (ws : List Cond) (rm : Room) (D : va_G) (ids : Nat → ClassId) (idJ : ClassId) (b qa : Nat) (As : List zAV) (v : zHp) (g : Nat → Int64) (r : Int) (v1 : zHp) (g1 : Nat → Int64) (mc ms : Nat) : Prop :=
  ∀ sz : Nat, qa < sz → ¬ (b ≤ qa ∧ qa < b + 137) → vx_Met l y ws rm (va_Pc (As.map (zxv b)) (zPL D ids idJ b qa sz v g)) (zQL D ids idJ b qa sz r v1 g1) (fun _ _ _ => False) mc ms (zAL b qa sz)
theorem zPreL_blind {av : List Value} {sz qa : Nat} {D : va_G} {ids : Nat → ClassId} {idJ : ClassId} {b : Nat} {v : zHp} {g : Nat → Int64} : FrameBlind (va_Pc av (zPL D ids idJ b qa sz v g)) := fun a U g mk q => by
  obtain ⟨q0, q1, ⟨q2, q3⟩, q4⟩ := q
  exact ⟨q0, q1, ⟨q2, va_K.moved (u := U) (U := U.calling g mk a) (Vm.Alike.refl U.vm) q3⟩, q4.call⟩
theorem zOutD {A : Nat → Prop} {ids : Nat → ClassId} {idJ : ClassId} {b qa : Nat} {v : zHp} {g : Nat → Int64} (hA : ∀ i, i < 137 → A (b + (0 + i))) (hq : A qa) (hn : ¬ (b ≤ qa ∧ qa < b + 137)) : va_D A (zwl ids b 0 137 v ++ zOut idJ qa g) := by
  refine va_D.app (zwl_D hA) ⟨fun i j x y hi hj _ => ?_, fun k x hx => ?_⟩ (fun i j x y hi hj => ?_)
  · have := (List.getElem?_eq_some_iff.mp hi).1
    have := (List.getElem?_eq_some_iff.mp hj).1
    simp at *
    omega
  · have h1 := List.mem_of_getElem? hx
    simp at h1
    rw [h1]
    exact hq
  · have h1 := List.mem_of_getElem? hj
    simp at h1
    rw [h1]
    have hl := (List.getElem?_eq_some_iff.mp hi).1
    rw [zwl_len] at hl
    rw [zwl_at' hl] at hi
    cases hi
    show b + (0 + i) ≠ qa
    omega
theorem zOut_at {ids : Nat → ClassId} {idJ : ClassId} {b qa : Nat} {v : zHp} {g : Nat → Int64} : (zwl ids b 0 137 v ++ zOut idJ qa g)[137]? = some (qa, .inl (idJ, 1, .inr (.inl g))) := by
  rw [List.getElem?_append_right (by rw [zwl_len]; exact Nat.le_refl 137), zwl_len]
  rfl
theorem zOut_set {ids : Nat → ClassId} {idJ : ClassId} {b qa : Nat} {v : zHp} {g g1 : Nat → Int64} : (zwl ids b 0 137 v ++ zOut idJ qa g).set 137 (qa, .inl (idJ, 1, .inr (.inl g1))) = zwl ids b 0 137 v ++ zOut idJ qa g1 := by
  rw [List.set_append_right _ _ (by rw [zwl_len]; exact Nat.le_refl 137), zwl_len]
  rfl
theorem zMetL {l : Launch} {y : MethodName} {ws : List Cond} {rm : Room} {D : va_G} {ids : Nat → ClassId} {idJ : ClassId} {b qa : Nat} {As : List zAV} {v v1 : zHp} {g g1 : Nat → Int64} {r : Int} {mc ms maxL : Nat} {cc : ByteArray} {hh : List (Nat × Nat × Nat × Nat)} (hy : plainName y.cls = true) (hw : ws = .codeWith y cc maxL (some .int) hh :: zbig) (hlen : As.length ≤ maxL) (hown : y.cls = RL)
    (body : ∀ (E : zE), zEl E = l → zER E = rm → zED E = D → zEi E = ids → zEb E = b → zEN E = maxL → (zEA E) qa → (∀ i, i < 137 → (zEA E) (zEb E + (0 + i))) → va_K (zED E) vwCl (ztysL (zEi E) idJ) (zEs E) → zC E 137 cc RL ws → zTw (zEA E) (zEs E) (zEH E) → (zEc E).exceptionTable.toList = tableOf hh → ¬ (zEb E ≤ qa ∧ qa < zEb E + 137) → (∀ pc lo, zV 0 137 v1 → decode cc pc = .ok (.ireturn, 1) → zY E mc ms (zwl (zEi E) (zEb E) 0 137 v1 ++ zOut idJ qa g1) pc lo [zi r]) → zY E 0 0 (zwl (zEi E) (zEb E) 0 137 v ++ zOut idJ qa g) 0 (As.map some ++ List.replicate (maxL - As.length) none) []) : zCTL l y ws rm D ids idJ b qa As v g r v1 g1 mc ms := by
  intro sz hqs hqb
  refine vx_ofWH (cc := cc) (maxL := maxL) (ret := some .int) (hh := hh) hy hw ?_
  intro p e s m args below meth c s₁ B hml hv
  obtain ⟨rfl, hsz, ⟨hP, hK⟩, hTw⟩ := hv
  have hx := B.exec
  have hb := B.bytes
  have hr := B.returns
  have hts := atoms_spec (ws := ws) B.pre
  have hownc : s.vm.findClass RL = some m.cls := by rw [← hown]; exact findClass_of_methodNamed B.named
  have hlocks := B.notSynchronized
  have htab := vx_table (x := y) (hh := hh) B (hts _ (by rw [hw]; exact List.mem_cons_self))
  have hl := lv_entry (As.map (zxv b)) (n := maxL) (by rw [lg_sl_len]; exact hlen)
  rw [lg_entry_eq]
  generalize (lg_sl (As.map (zxv b)) ++ List.replicate (maxL - (lg_sl (As.map (zxv b))).length) Slot.unset).toArray = ls at hl ⊢
  have hA : ∀ q : Nat, s.heap.size ≤ q → zAL b qa sz q := fun q h => Or.inl (Or.inr (by rw [← hsz]; exact h))
  have hAn : ∀ i, i < 137 → zAL b qa sz (b + (0 + i)) := fun i h => Or.inl (Or.inl ⟨by omega, by omega⟩)
  have hK6 : va_K D vwCl (ztys ids) s := hK.sub [0, 1, 2, 3, 4, 5] rfl
  refine body ((p, l, e, rm, s), (m, (As.map (zxv b)).toArray, below, meth, c), (D, ids, b, 0, False), (s.heap, zAL b qa sz, maxL, vx_MQ below (zQL D ids idJ b qa sz r v1 g1) (fun _ _ _ => False) (As.map (zxv b)).toArray s mc ms (zAL b qa sz))) rfl rfl rfl rfl rfl rfl (Or.inr rfl) hAn hK ⟨hx, hb, hownc, hts, hK6, hlocks, hml, hA, hAn⟩ hTw htab hqb ?_ s.heap [] ls hP va_S.rf trivial ⟨hl.1, hl.2.1, fun q hq => ?_⟩
  · intro pc lo hv1 hd H locs ls hP1 hS1 hZ1 hl1
    show W p l e rm s m (As.map (zxv b)).toArray below meth c H locs mc ms (vx_MQ below (zQL D ids idJ b qa sz r v1 g1) (fun _ _ _ => False) (As.map (zxv b)).toArray s mc ms (zAL b qa sz)) (F0 m pc ls [.int (zI r)])
    exact vx_ret (W.zret (v := zI r) hx hb hr rfl (fun t ht hW => ⟨⟨hv1, rfl, by rw [ht]; exact hP1⟩, hS1.F ht⟩) hS1.2.2 hd)
  · obtain ⟨x, h1, h2⟩ := zpr_mem.mp hq
    have h3 := zpr_args (b := b) As 0 (maxL - As.length) q x h1 h2
    rw [Nat.zero_add] at h3
    exact hl.2.2 q h3
theorem zOutB {idJ : ClassId} {b qa : Nat} {g : Nat → Int64} (h : ¬ (b ≤ qa ∧ qa < b + 137)) : ∀ q ∈ ([] : va_W) ++ zOut idJ qa g, ¬ (b + 0 ≤ q.1 ∧ q.1 < b + (0 + 137)) := by
  intro q hq
  have h1 : q = (qa, .inl (idJ, 1, .inr (.inl g))) := by simpa using hq
  rw [h1]
  show ¬ (b + 0 ≤ qa ∧ qa < b + (0 + 137))
  omega
noncomputable def vsL_premium : List Cond := .codeWith yL_premium cL_premium 5 (some .int) [(0, 10, 13, 13)] :: zbig
abbrev rmL_premium : Room := { frames := 2, cells := 0, slots := 0, locals := 44 }
set_option maxRecDepth 100000 in
set_option maxHeartbeats 4000000 in
theorem qL_premium (l : Launch) (D : va_G) (ids : Nat → ClassId) (idJ : ClassId) (b qa : Nat) (g : Nat → Int64) {p0 : Int} (Rp0 : zR p0) {p1 : Int} (Rp1 : zR p1) {v v' : zHp} {r' : Int} (hv : zV 0 137 v) (h : fX11_premium v p0 p1 = some (v', r')) : zCTL l yL_premium vsL_premium rmL_premium D ids idJ b qa [zr 0, zi p0, zi p1, zs qa] v g 0 v' (vp_updL g 0 (zI r').toInt64) 0 0 := by
  refine zMetL (by decide +kernel) (show vsL_premium = _ from rfl) (Nat.le_of_ble_eq_true rfl) rfl ?_
  intro E hl hRm hD hids hb hN hAq hcov hKL C hTw htab hqb ret
  subst hl hD hids hb
  refine w_aloadS_n C (zd tL_premium 0 rfl) rfl ?_
  refine w_iconst C (zd tL_premium 1 rfl) ?_
  refine w_aload_n C (zd tL_premium 2 rfl) rfl ?_
  refine w_iload_n C (zd tL_premium 3 rfl) rfl ?_
  refine w_iload_n C (zd tL_premium 4 rfl) rfl ?_
  refine w_callV C (o := 0) (nw := 137) hRm (A := []) (zOutB hqb) hcov (qX11_premium _ _ _ _ Rp0 Rp1 hv h) rfl (Nat.zero_le 0) (by decide) (by decide) rfl (zgV zwd_890 zwd_891 zwd_892 zwd_1 zwd_893) rfl pX11_premium rfl ⟨rfl, rfl⟩ ⟨Nat.le_of_ble_eq_true rfl, Nat.le_of_ble_eq_true rfl⟩ (k' := 0) (n' := 0) ⟨rfl, rfl⟩ ⟨Nat.le_of_ble_eq_true rfl, Nat.le_of_ble_eq_true rfl⟩ [zi 0, zs qa] rfl (Nat.le_of_ble_eq_true rfl) (zd tL_premium 5 rfl) [zi r', zi 0, zs qa] rfl (fun pf => ?_)
  refine w_last C hKL (t0 := 6) rfl (q := 137) (a := qa) (g := g) zOut_at (zOutD hcov hAq hqb) (zd tL_premium 6 rfl) (zd tL_premium 7 rfl) ?_
  rw [zOut_set]
  refine w_goto (tgt := 17) C (zd tL_premium 8 rfl) (by decide) ?_
  refine w_iconst C (zd tL_premium 12 rfl) ?_
  exact ret _ _ pf.1 (zd tL_premium 13 rfl)
abbrev rtL_premium : Room := { frames := 7, cells := 1, slots := 6, locals := 104 }
set_option maxRecDepth 100000 in
set_option maxHeartbeats 4000000 in
theorem xL_premium (l : Launch) (D : va_G) (ids : Nat → ClassId) (idJ : ClassId) (b qa : Nat) (g : Nat → Int64) {p0 : Int} (Rp0 : zR p0) {p1 : Int} (Rp1 : zR p1) {v v' : zHp} {r' : Int} (hst : l.stackTraces = false) (hv : zV 0 137 v) (h : eX11_premium v p0 p1 = some (v', r')) : zCTL l yL_premium vsL_premium rtL_premium D ids idJ b qa [zr 0, zi p0, zi p1, zs qa] v g 1 v' g 1 6 := by
  refine zMetL (by decide +kernel) (show vsL_premium = _ from rfl) (Nat.le_of_ble_eq_true rfl) rfl ?_
  intro E hl hRm hD hids hb hN hAq hcov hKL C hTw htab hqb ret
  subst hl hD hids hb
  refine w_aloadS_n C (zd tL_premium 0 rfl) rfl ?_
  refine w_iconst C (zd tL_premium 1 rfl) ?_
  refine w_aload_n C (zd tL_premium 2 rfl) rfl ?_
  refine w_iload_n C (zd tL_premium 3 rfl) rfl ?_
  refine w_iload_n C (zd tL_premium 4 rfl) rfl ?_
  refine w_callX C (o := 0) (nw := 137) hTw hRm (A := []) (zOutB hqb) hcov (xX11_premium _ _ _ _ Rp0 Rp1 hst hv h) rfl (Nat.zero_le 0) (by decide) (by decide) rfl (zgV zwd_890 zwd_891 zwd_892 zwd_1 zwd_893) rfl pX11_premium rfl ⟨rfl, rfl⟩ ⟨Nat.le_of_ble_eq_true rfl, Nat.le_of_ble_eq_true rfl⟩ (k' := 1) (n' := 6) ⟨rfl, rfl⟩ ⟨Nat.le_of_ble_eq_true rfl, Nat.le_of_ble_eq_true rfl⟩ [zi 0, zs qa] rfl (Nat.le_of_ble_eq_true rfl) (zd tL_premium 5 rfl) htab (by decide) (by decide) (zm zwd_889) (fun pf q => ?_)
  refine w_astoreS C (zd tL_premium 9 rfl) (by rw [hN]; decide) ?_
  refine w_iconst C (zd tL_premium 10 rfl) ?_
  exact ret _ _ pf (zd tL_premium 11 rfl)
noncomputable def vsL_quarter : List Cond := .codeWith yL_quarter cL_quarter 6 (some .int) [(0, 12, 15, 13)] :: zbig
abbrev rmL_quarter : Room := { frames := 8, cells := 0, slots := 0, locals := 210 }
set_option maxRecDepth 100000 in
set_option maxHeartbeats 4000000 in
theorem qL_quarter (l : Launch) (D : va_G) (ids : Nat → ClassId) (idJ : ClassId) (b qa : Nat) (g : Nat → Int64) {p0 : Int} (Rp0 : zR p0) {p1 : Int} (Rp1 : zR p1) {p2 : Int} (Rp2 : zR p2) {v v' : zHp} {r' : Int} (hv : zV 0 137 v) (h : fX11_quarter v p0 p1 p2 = some (v', r')) : zCTL l yL_quarter vsL_quarter rmL_quarter D ids idJ b qa [zr 0, zi p0, zi p1, zi p2, zs qa] v g 0 v' (vp_updL g 0 (zI r').toInt64) 0 0 := by
  refine zMetL (by decide +kernel) (show vsL_quarter = _ from rfl) (Nat.le_of_ble_eq_true rfl) rfl ?_
  intro E hl hRm hD hids hb hN hAq hcov hKL C hTw htab hqb ret
  subst hl hD hids hb
  refine w_aloadS C (zd tL_quarter 0 rfl) rfl ?_
  refine w_iconst C (zd tL_quarter 1 rfl) ?_
  refine w_aload_n C (zd tL_quarter 2 rfl) rfl ?_
  refine w_iload_n C (zd tL_quarter 3 rfl) rfl ?_
  refine w_iload_n C (zd tL_quarter 4 rfl) rfl ?_
  refine w_iload_n C (zd tL_quarter 5 rfl) rfl ?_
  refine w_callV C (o := 0) (nw := 137) hRm (A := []) (zOutB hqb) hcov (qX11_quarter _ _ _ _ Rp0 Rp1 Rp2 hv h) rfl (Nat.zero_le 0) (by decide) (by decide) rfl (zgV zwd_958 zwd_959 zwd_960 zwd_1 zwd_961) rfl pX11_quarter rfl ⟨rfl, rfl⟩ ⟨Nat.le_of_ble_eq_true rfl, Nat.le_of_ble_eq_true rfl⟩ (k' := 0) (n' := 0) ⟨rfl, rfl⟩ ⟨Nat.le_of_ble_eq_true rfl, Nat.le_of_ble_eq_true rfl⟩ [zi 0, zs qa] rfl (Nat.le_of_ble_eq_true rfl) (zd tL_quarter 6 rfl) [zi r', zi 0, zs qa] rfl (fun pf => ?_)
  refine w_last C hKL (t0 := 6) rfl (q := 137) (a := qa) (g := g) zOut_at (zOutD hcov hAq hqb) (zd tL_quarter 7 rfl) (zd tL_quarter 8 rfl) ?_
  rw [zOut_set]
  refine w_goto (tgt := 19) C (zd tL_quarter 9 rfl) (by decide) ?_
  refine w_iconst C (zd tL_quarter 13 rfl) ?_
  exact ret _ _ pf.1 (zd tL_quarter 14 rfl)
abbrev rtL_quarter : Room := { frames := 8, cells := 1, slots := 6, locals := 210 }
set_option maxRecDepth 100000 in
set_option maxHeartbeats 4000000 in
theorem xL_quarter (l : Launch) (D : va_G) (ids : Nat → ClassId) (idJ : ClassId) (b qa : Nat) (g : Nat → Int64) {p0 : Int} (Rp0 : zR p0) {p1 : Int} (Rp1 : zR p1) {p2 : Int} (Rp2 : zR p2) {v v' : zHp} {r' : Int} (hst : l.stackTraces = false) (hv : zV 0 137 v) (h : eX11_quarter v p0 p1 p2 = some (v', r')) : zCTL l yL_quarter vsL_quarter rtL_quarter D ids idJ b qa [zr 0, zi p0, zi p1, zi p2, zs qa] v g 1 v' g 1 6 := by
  refine zMetL (by decide +kernel) (show vsL_quarter = _ from rfl) (Nat.le_of_ble_eq_true rfl) rfl ?_
  intro E hl hRm hD hids hb hN hAq hcov hKL C hTw htab hqb ret
  subst hl hD hids hb
  refine w_aloadS C (zd tL_quarter 0 rfl) rfl ?_
  refine w_iconst C (zd tL_quarter 1 rfl) ?_
  refine w_aload_n C (zd tL_quarter 2 rfl) rfl ?_
  refine w_iload_n C (zd tL_quarter 3 rfl) rfl ?_
  refine w_iload_n C (zd tL_quarter 4 rfl) rfl ?_
  refine w_iload_n C (zd tL_quarter 5 rfl) rfl ?_
  refine w_callX C (o := 0) (nw := 137) hTw hRm (A := []) (zOutB hqb) hcov (xX11_quarter _ _ _ _ Rp0 Rp1 Rp2 hst hv h) rfl (Nat.zero_le 0) (by decide) (by decide) rfl (zgV zwd_958 zwd_959 zwd_960 zwd_1 zwd_961) rfl pX11_quarter rfl ⟨rfl, rfl⟩ ⟨Nat.le_of_ble_eq_true rfl, Nat.le_of_ble_eq_true rfl⟩ (k' := 1) (n' := 6) ⟨rfl, rfl⟩ ⟨Nat.le_of_ble_eq_true rfl, Nat.le_of_ble_eq_true rfl⟩ [zi 0, zs qa] rfl (Nat.le_of_ble_eq_true rfl) (zd tL_quarter 6 rfl) htab (by decide) (by decide) (zm zwd_889) (fun pf q => ?_)
  refine w_astoreS C (zd tL_quarter 10 rfl) (by rw [hN]; decide) ?_
  refine w_iconst C (zd tL_quarter 11 rfl) ?_
  exact ret _ _ pf (zd tL_quarter 12 rfl)
