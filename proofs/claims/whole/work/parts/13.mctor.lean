/-! the reference's constructor: behind it the heap's size isn't followed any more. Laid by wip/whole/genmctor.py. -/
def zFg (E : zE) : zE := (E.1, E.2.1, (E.2.2.1.1, E.2.2.1.2.1, E.2.2.1.2.2.1, E.2.2.1.2.2.2.1, False), E.2.2.2)
def zCTM (l : Launch) (y : MethodName) (ws : List Cond) (rm : Room) (D : va_G) (ids : Nat → ClassId) (b o : Nat) (nn : Nat) (As : List zAV) (v : zHp) (nn1 : Nat) (Pf : Prop) (ret : Option zAV) (v1 : zHp) (mc ms : Nat) : Prop :=
  ∀ sz : Nat, Met l y ws rm (va_Pc (As.map (zxv b)) (fun U => U.heap.size = sz ∧ zWS D ids b o True nn v U)) (zQc D ids b o False nn nn1 Pf ret v1 sz) mc ms (zA b o nn sz)
section ZM
variable {E : zE} {nn : Nat} {cc : ByteArray} {own : String} {Ts : List Cond} {k n : Nat} {v : zHp} {pc : Nat} {lo : List (Option zAV)} {st stk : List zAV}
theorem z_forget (kk : zX (zFg E) k n nn v pc lo st) : zX E k n nn v pc lo st := fun H locs ls hP hS _ hl => kk H locs ls hP hS (fun h => h.elim) hl
theorem zMetM {l : Launch} {y : MethodName} {ws' ws : List Cond} {rm : Room} {D : va_G} {ids : Nat → ClassId} {b o : Nat} {As : List zAV} {nn1 : Nat} {Pf : Prop} {ret : Option zAV} {v1 : zHp} {mc ms maxL : Nat} {ret' : Option FieldType} (hy : plainName y.cls = true) (hw : ws = .code y cc maxL ret' :: ws') (hlen : As.length ≤ maxL) (hown : y.cls = own)
    (body : ∀ E : zE, zEl E = l → zER E = rm → zED E = D → zEi E = ids → zEb E = b → zEo E = o → zEz E = True → zEN E = maxL → zC E nn cc own ws → zEH E = (zEs E).heap ∧ (zEH E).size = zEb E + (zEo E + nn) → (zEme E).name = y.name → zRet (zFg E) cc mc ms nn1 ret' Pf ret v1 → zX E 0 0 nn v 0 (As.map some ++ List.replicate (maxL - As.length) none) []) : zCTM l y ws rm D ids b o nn As v nn1 Pf ret v1 mc ms := by
  subst hown
  intro sz
  refine Met.ofW (cc := cc) (maxL := maxL) (ret := ret') hy hw ?_
  intro p e s m args below meth c s₁ B hml hv
  obtain ⟨rfl, hsz, hP, hK, hZ⟩ := hv
  have hx := B.exec
  have hb := B.bytes
  have hr := B.returns
  have hts := atoms_spec (ws := ws) B.pre
  have hownc : s.vm.findClass y.cls = some m.cls := findClass_of_methodNamed B.named
  have hlocks := B.notSynchronized
  have hl := lv_entry (As.map (zxv b)) (n := maxL) (by rw [lg_sl_len]; exact hlen)
  rw [lg_entry_eq]
  generalize (lg_sl (As.map (zxv b)) ++ List.replicate (maxL - (lg_sl (As.map (zxv b))).length) Slot.unset).toArray = ls at hl ⊢
  have hA : ∀ q : Nat, s.heap.size ≤ q → zA b o nn sz q := fun q h => Or.inr (by rw [← hsz]; exact h)
  have hAn : ∀ i, i < nn → zA b o nn sz (b + (o + i)) := fun i h => Or.inl ⟨by omega, by omega⟩
  refine body ((p, l, e, rm, s), (m, (As.map (zxv b)).toArray, below, meth, c), (D, ids, b, o, True), (s.heap, zA b o nn sz, maxL, MQ below (zQc D ids b o False nn nn1 Pf ret v1 sz) (As.map (zxv b)).toArray s mc ms (zA b o nn sz))) rfl rfl rfl rfl rfl rfl rfl rfl ⟨hx, hb, hownc, hts, hK, hlocks, hml, hA, hAn⟩ ⟨rfl, hZ trivial⟩ (name_of_methodNamed B.named B.method).1 ?_ s.heap [] ls hP va_S.rf hZ ⟨hl.1, hl.2.1, fun q hq => ?_⟩
  · refine ⟨fun pc lo r ty hpf e1 e2 hn hd => ?_, fun pc lo hpf e1 e2 hd => ?_, fun pc lo a nm hpf e1 e2 hd => ?_⟩
    · subst e1
      intro H locs ls hP1 hS1 hZ1 hl1
      show W p l e rm s m (As.map (zxv b)).toArray below meth c H locs mc ms (MQ below (zQc D ids b o False nn nn1 Pf _ v1 sz) (As.map (zxv b)).toArray s mc ms (zA b o nn sz)) (F0 m pc ls [.int (zI r)])
      exact W.zret (v := zI r) hx hb (hr.trans e2) hn (fun t ht hW => ⟨⟨hpf, rfl, by rw [ht]; exact hP1, va_K.moved hW.alike hK, fun z => by rw [ht]; exact z.elim⟩, hS1.F ht⟩) hS1.2.2 hd
    · subst e1
      intro H locs ls hP1 hS1 hZ1 hl1
      show W p l e rm s m (As.map (zxv b)).toArray below meth c H locs mc ms (MQ below (zQc D ids b o False nn nn1 Pf _ v1 sz) (As.map (zxv b)).toArray s mc ms (zA b o nn sz)) (F0 m pc ls [])
      exact W.vret hx hb (hr.trans e2) (fun t ht hW => ⟨⟨hpf, rfl, by rw [ht]; exact hP1, va_K.moved hW.alike hK, fun z => by rw [ht]; exact z.elim⟩, hS1.F ht⟩) hS1.2.2 hd
    · subst e1
      intro H locs ls hP1 hS1 hZ1 hl1
      show W p l e rm s m (As.map (zxv b)).toArray below meth c H locs mc ms (MQ below (zQc D ids b o False nn nn1 Pf _ v1 sz) (As.map (zxv b)).toArray s mc ms (zA b o nn sz)) (F0 m pc ls [.ref (b + a)])
      exact W.aret (v := .ref (b + a)) hx hb (hr.trans e2) (Or.inl ⟨nm, rfl⟩) (Or.inr ⟨_, rfl⟩) (fun t ht hW => ⟨⟨hpf, rfl, by rw [ht]; exact hP1, va_K.moved hW.alike hK, fun z => by rw [ht]; exact z.elim⟩, hS1.F ht⟩) hS1.2.2 hd
  · obtain ⟨x, h1, h2⟩ := zpr_mem.mp hq
    have h3 := zpr_args (b := b) As 0 (maxL - As.length) q x h1 h2
    rw [Nat.zero_add] at h3
    exact hl.2.2 q h3
end ZM
theorem zgd {l : List (Option Nat)} {j : Nat} (h : l.length ≤ j) : l.getD j none = none := by
  rw [List.getD_eq_getElem?_getD, List.getElem?_eq_none h]
  rfl
theorem zV_links {v : zHp} (hR : ∀ a j, zR (v a j)) (q : v 137 1 = 138 ∧ v 137 10 = 139 ∧ v 137 11 = 140 ∧ v 137 13 = 141 ∧ v 137 14 = 142 ∧ v 137 15 = 143 ∧ v 137 17 = 144 ∧ v 137 18 = 145 ∧ v 137 20 = 146 ∧ v 137 21 = 147 ∧ v 137 22 = 148 ∧ v 137 24 = 149 ∧ v 137 25 = 150 ∧ v 137 26 = 151 ∧ v 137 27 = 152 ∧ v 137 28 = 153 ∧ v 137 29 = 154 ∧ v 137 30 = 155 ∧ v 137 31 = 156 ∧ v 137 34 = 157 ∧ v 137 35 = 158 ∧ v 137 36 = 159 ∧ v 137 37 = 160) : zV 137 24 v := by
  refine ⟨hR, fun a h1 h2 j d hd => ?_⟩
  have h3 : (List.range 24).all (fun i => if (137 + i) = 137 then true else (zK (137 + i)).1 == 20 || (zK (137 + i)).1 == 21 || (zK (137 + i)).1 == 22) = true := by decide +kernel
  by_cases ha : a = 137
  · subst ha
    have h4 : zK 137 = (12, 38) := rfl
    rw [h4] at hd
    have hj : j < 38 := by
      rcases Nat.lt_or_ge j 38 with h | h
      · exact h
      · have : zlk 12 j 137 = none := zgd (by exact h)
        rw [this] at hd
        cases hd
    obtain ⟨q1, q10, q11, q13, q14, q15, q17, q18, q20, q21, q22, q24, q25, q26, q27, q28, q29, q30, q31, q34, q35, q36, q37⟩ := q
    match j, hj, hd with
    | 0, _, hd => cases hd
    | 1, _, hd => (cases hd; exact q1)
    | 2, _, hd => cases hd
    | 3, _, hd => cases hd
    | 4, _, hd => cases hd
    | 5, _, hd => cases hd
    | 6, _, hd => cases hd
    | 7, _, hd => cases hd
    | 8, _, hd => cases hd
    | 9, _, hd => cases hd
    | 10, _, hd => (cases hd; exact q10)
    | 11, _, hd => (cases hd; exact q11)
    | 12, _, hd => cases hd
    | 13, _, hd => (cases hd; exact q13)
    | 14, _, hd => (cases hd; exact q14)
    | 15, _, hd => (cases hd; exact q15)
    | 16, _, hd => cases hd
    | 17, _, hd => (cases hd; exact q17)
    | 18, _, hd => (cases hd; exact q18)
    | 19, _, hd => cases hd
    | 20, _, hd => (cases hd; exact q20)
    | 21, _, hd => (cases hd; exact q21)
    | 22, _, hd => (cases hd; exact q22)
    | 23, _, hd => cases hd
    | 24, _, hd => (cases hd; exact q24)
    | 25, _, hd => (cases hd; exact q25)
    | 26, _, hd => (cases hd; exact q26)
    | 27, _, hd => (cases hd; exact q27)
    | 28, _, hd => (cases hd; exact q28)
    | 29, _, hd => (cases hd; exact q29)
    | 30, _, hd => (cases hd; exact q30)
    | 31, _, hd => (cases hd; exact q31)
    | 32, _, hd => cases hd
    | 33, _, hd => cases hd
    | 34, _, hd => (cases hd; exact q34)
    | 35, _, hd => (cases hd; exact q35)
    | 36, _, hd => (cases hd; exact q36)
    | 37, _, hd => (cases hd; exact q37)
  · have h5 := List.all_eq_true.mp h3 (a - 137) (List.mem_range.mpr (by omega))
    rw [show 137 + (a - 137) = a by omega, if_neg ha] at h5
    simp only [Bool.or_eq_true, beq_iff_eq] at h5
    rcases h5 with (h5 | h5) | h5 <;> (rw [h5] at hd; cases hd)
def fX12_init (v : zHp) : Option (zHp × Int) := zb (zfr v 138) fun v1 => zb (zst v1 137 1 ((138 : Nat) : Int)) fun v2 => zb (zfr v2 139) fun v3 => zb (zst v3 137 10 ((139 : Nat) : Int)) fun v4 => zb (zfr v4 140) fun v5 => zb (zst v5 137 11 ((140 : Nat) : Int)) fun v6 => zb (zfr v6 141) fun v7 => zb (zst v7 137 13 ((141 : Nat) : Int)) fun v8 => zb (zfr v8 142) fun v9 => zb (zst v9 137 14 ((142 : Nat) : Int)) fun v10 => zb (zfr v10 143) fun v11 => zb (zst v11 137 15 ((143 : Nat) : Int)) fun v12 => zb (zfr v12 144) fun v13 => zb (zst v13 137 17 ((144 : Nat) : Int)) fun v14 => zb (zfr v14 145) fun v15 => zb (zst v15 137 18 ((145 : Nat) : Int)) fun v16 => zb (zfr v16 146) fun v17 => zb (zst v17 137 20 ((146 : Nat) : Int)) fun v18 => zb (zfr v18 147) fun v19 => zb (zst v19 137 21 ((147 : Nat) : Int)) fun v20 => zb (zfr v20 148) fun v21 => zb (zst v21 137 22 ((148 : Nat) : Int)) fun v22 => zb (zfr v22 149) fun v23 => zb (zst v23 137 24 ((149 : Nat) : Int)) fun v24 => zb (zfr v24 150) fun v25 => zb (zst v25 137 25 ((150 : Nat) : Int)) fun v26 => zb (zfr v26 151) fun v27 => zb (zst v27 137 26 ((151 : Nat) : Int)) fun v28 => zb (zfr v28 152) fun v29 => zb (zst v29 137 27 ((152 : Nat) : Int)) fun v30 => zb (zfr v30 153) fun v31 => zb (zst v31 137 28 ((153 : Nat) : Int)) fun v32 => zb (zfr v32 154) fun v33 => zb (zst v33 137 29 ((154 : Nat) : Int)) fun v34 => zb (zfr v34 155) fun v35 => zb (zst v35 137 30 ((155 : Nat) : Int)) fun v36 => zb (zfr v36 156) fun v37 => zb (zst v37 137 31 ((156 : Nat) : Int)) fun v38 => zb (zfr v38 157) fun v39 => zb (zst v39 137 34 ((157 : Nat) : Int)) fun v40 => zb (zfr v40 158) fun v41 => zb (zst v41 137 35 ((158 : Nat) : Int)) fun v42 => zb (zfr v42 159) fun v43 => zb (zst v43 137 36 ((159 : Nat) : Int)) fun v44 => zb (zfr v44 160) fun v45 => zb (zst v45 137 37 ((160 : Nat) : Int)) fun v46 => zck (v46 137 1 = 138 ∧ v46 137 10 = 139 ∧ v46 137 11 = 140 ∧ v46 137 13 = 141 ∧ v46 137 14 = 142 ∧ v46 137 15 = 143 ∧ v46 137 17 = 144 ∧ v46 137 18 = 145 ∧ v46 137 20 = 146 ∧ v46 137 21 = 147 ∧ v46 137 22 = 148 ∧ v46 137 24 = 149 ∧ v46 137 25 = 150 ∧ v46 137 26 = 151 ∧ v46 137 27 = 152 ∧ v46 137 28 = 153 ∧ v46 137 29 = 154 ∧ v46 137 30 = 155 ∧ v46 137 31 = 156 ∧ v46 137 34 = 157 ∧ v46 137 35 = 158 ∧ v46 137 36 = 159 ∧ v46 137 37 = 160) <| zcl (fX12_clearsDraft v46) fun w201 rw201 => zcl (fX12_takes w201) fun w205 rw205 => some (w205, 0)
noncomputable def vsX12_init : List Cond := .code yX12_init cX12_init 1 none :: zbig
theorem pX12_init : yX12_init.cls = RX12 ∧ yX12_init.cls ≠ "java/lang/invoke/MethodHandle" ∧ yX12_init.cls ≠ "java/lang/invoke/VarHandle" ∧ (parseMethodDescriptor yX12_init.desc).map (fun d => d.parameters.length) = some 0 := by decide +kernel
abbrev rmX12_init : Room := { frames := 2, cells := 23, slots := 479917, locals := 24 }
set_option maxRecDepth 100000 in
set_option maxHeartbeats 4000000 in
theorem qX12_init (l : Launch) (D : va_G) (ids : Nat → ClassId) (b : Nat) {v v' : zHp} {r' : Int} (hv : zV0 v) (h : fX12_init v = some (v', r')) : zCTM l yX12_init vsX12_init rmX12_init D ids b 137 1 [zr 137] v 24 (zV 137 24 v') none v' 23 479917 := by
  refine zMetM (own := RX12) (by decide +kernel) (show vsX12_init = _ from rfl) (Nat.le_of_ble_eq_true rfl) rfl ?_
  intro E hl hRm hD hids hb ho hz hN C hS0 hname ret
  subst hl hD hids hb
  have hnm : (zEme E).name = "<init>" := hname
  have hNw : True ∧ True ∧ (True → (zEH E).size = zEb E + (zEo E + 1)) := ⟨trivial, trivial, fun _ => hS0.2⟩
  unfold fX12_init at h
  refine z_aload_n C (zd tX12_init 0 rfl) rfl ?_
  refine z_objInit C hRm (zm zwd_980) (zm zwd_29) (zm zwd_30) ⟨Nat.le_of_ble_eq_true rfl, Nat.le_of_ble_eq_true rfl⟩ (zd tX12_init 1 rfl) ?_
  refine z_aload_n C (zd tX12_init 2 rfl) rfl ?_
  refine z_sipush C (by decide) (zd tX12_init 3 rfl) ?_
  obtain ⟨v1, ev1, h⟩ := zb_some h
  have hv1 : zV0 v1 := by rw [ev1]; exact hv.fr
  have ea : zEo E + (1) = 138 := by rw [ho]
  refine z_newA C hz hRm (tg := 22) (fty := .byte) (N := 400) (M := 400) (k' := 1) (n' := 400) (nn' := 2) (by simp) rfl (by decide) (by rw [ea]; exact (show zK 138 = (22, 400) from rfl)) (zm zwd_596) ⟨rfl, rfl⟩ ⟨Nat.le_of_ble_eq_true rfl, Nat.le_of_ble_eq_true rfl⟩ ea rfl ev1 (zd tX12_init 4 rfl) ?_
  have C : zC E (2) _ _ _ := C.to (by omega) (by have := hNw.2.2 trivial; omega)
  obtain ⟨v2, ev2, h⟩ := zb_some h
  have hv2 : zV0 v2 := by rw [ev2]; exact hv1.st (zRn (by omega))
  refine pg_12_1 C hnm (zGm ho (show zK 137 = (12, 38) from rfl) (by decide) (by decide)) zic_12 (zm zwd_991) ev2 (zd tX12_init 5 rfl) ?_
  refine z_aload_n C (zd tX12_init 6 rfl) rfl ?_
  refine z_bipush C (by decide) (zd tX12_init 7 rfl) ?_
  obtain ⟨v3, ev3, h⟩ := zb_some h
  have hv3 : zV0 v3 := by rw [ev3]; exact hv2.fr
  have ea : zEo E + (2) = 139 := by rw [ho]
  refine z_newA C hz hRm (tg := 20) (fty := .int) (N := 51) (M := 51) (k' := 2) (n' := 451) (nn' := 3) (by simp) rfl (by decide) (by rw [ea]; exact (show zK 139 = (20, 51) from rfl)) (zm zwd_59) ⟨rfl, rfl⟩ ⟨Nat.le_of_ble_eq_true rfl, Nat.le_of_ble_eq_true rfl⟩ ea rfl ev3 (zd tX12_init 8 rfl) ?_
  have C : zC E (3) _ _ _ := C.to (by omega) (by have := hNw.2.2 trivial; omega)
  obtain ⟨v4, ev4, h⟩ := zb_some h
  have hv4 : zV0 v4 := by rw [ev4]; exact hv3.st (zRn (by omega))
  refine pg_12_10 C hnm (zGm ho (show zK 137 = (12, 38) from rfl) (by decide) (by decide)) zic_12 (zm zwd_1000) ev4 (zd tX12_init 9 rfl) ?_
  refine z_aload_n C (zd tX12_init 10 rfl) rfl ?_
  refine z_bipush C (by decide) (zd tX12_init 11 rfl) ?_
  obtain ⟨v5, ev5, h⟩ := zb_some h
  have hv5 : zV0 v5 := by rw [ev5]; exact hv4.fr
  have ea : zEo E + (3) = 140 := by rw [ho]
  refine z_newA C hz hRm (tg := 20) (fty := .int) (N := 51) (M := 51) (k' := 3) (n' := 502) (nn' := 4) (by simp) rfl (by decide) (by rw [ea]; exact (show zK 140 = (20, 51) from rfl)) (zm zwd_59) ⟨rfl, rfl⟩ ⟨Nat.le_of_ble_eq_true rfl, Nat.le_of_ble_eq_true rfl⟩ ea rfl ev5 (zd tX12_init 12 rfl) ?_
  have C : zC E (4) _ _ _ := C.to (by omega) (by have := hNw.2.2 trivial; omega)
  obtain ⟨v6, ev6, h⟩ := zb_some h
  have hv6 : zV0 v6 := by rw [ev6]; exact hv5.st (zRn (by omega))
  refine pg_12_11 C hnm (zGm ho (show zK 137 = (12, 38) from rfl) (by decide) (by decide)) zic_12 (zm zwd_1001) ev6 (zd tX12_init 13 rfl) ?_
  refine z_aload_n C (zd tX12_init 14 rfl) rfl ?_
  refine z_iconst C (zd tX12_init 15 rfl) ?_
  obtain ⟨v7, ev7, h⟩ := zb_some h
  have hv7 : zV0 v7 := by rw [ev7]; exact hv6.fr
  have ea : zEo E + (4) = 141 := by rw [ho]
  refine z_newA C hz hRm (tg := 20) (fty := .int) (N := 4) (M := 4) (k' := 4) (n' := 506) (nn' := 5) (by simp) rfl (by decide) (by rw [ea]; exact (show zK 141 = (20, 4) from rfl)) (zm zwd_59) ⟨rfl, rfl⟩ ⟨Nat.le_of_ble_eq_true rfl, Nat.le_of_ble_eq_true rfl⟩ ea rfl ev7 (zd tX12_init 16 rfl) ?_
  have C : zC E (5) _ _ _ := C.to (by omega) (by have := hNw.2.2 trivial; omega)
  obtain ⟨v8, ev8, h⟩ := zb_some h
  have hv8 : zV0 v8 := by rw [ev8]; exact hv7.st (zRn (by omega))
  refine pg_12_13 C hnm (zGm ho (show zK 137 = (12, 38) from rfl) (by decide) (by decide)) zic_12 (zm zwd_1003) ev8 (zd tX12_init 17 rfl) ?_
  refine z_aload_n C (zd tX12_init 18 rfl) rfl ?_
  refine z_sipush C (by decide) (zd tX12_init 19 rfl) ?_
  obtain ⟨v9, ev9, h⟩ := zb_some h
  have hv9 : zV0 v9 := by rw [ev9]; exact hv8.fr
  have ea : zEo E + (5) = 142 := by rw [ho]
  refine z_newA C hz hRm (tg := 20) (fty := .int) (N := 244) (M := 244) (k' := 5) (n' := 750) (nn' := 6) (by simp) rfl (by decide) (by rw [ea]; exact (show zK 142 = (20, 244) from rfl)) (zm zwd_59) ⟨rfl, rfl⟩ ⟨Nat.le_of_ble_eq_true rfl, Nat.le_of_ble_eq_true rfl⟩ ea rfl ev9 (zd tX12_init 20 rfl) ?_
  have C : zC E (6) _ _ _ := C.to (by omega) (by have := hNw.2.2 trivial; omega)
  obtain ⟨v10, ev10, h⟩ := zb_some h
  have hv10 : zV0 v10 := by rw [ev10]; exact hv9.st (zRn (by omega))
  refine pg_12_14 C hnm (zGm ho (show zK 137 = (12, 38) from rfl) (by decide) (by decide)) zic_12 (zm zwd_1004) ev10 (zd tX12_init 21 rfl) ?_
  refine z_aload_n C (zd tX12_init 22 rfl) rfl ?_
  refine z_sipush C (by decide) (zd tX12_init 23 rfl) ?_
  obtain ⟨v11, ev11, h⟩ := zb_some h
  have hv11 : zV0 v11 := by rw [ev11]; exact hv10.fr
  have ea : zEo E + (6) = 143 := by rw [ho]
  refine z_newA C hz hRm (tg := 20) (fty := .int) (N := 244) (M := 244) (k' := 6) (n' := 994) (nn' := 7) (by simp) rfl (by decide) (by rw [ea]; exact (show zK 143 = (20, 244) from rfl)) (zm zwd_59) ⟨rfl, rfl⟩ ⟨Nat.le_of_ble_eq_true rfl, Nat.le_of_ble_eq_true rfl⟩ ea rfl ev11 (zd tX12_init 24 rfl) ?_
  have C : zC E (7) _ _ _ := C.to (by omega) (by have := hNw.2.2 trivial; omega)
  obtain ⟨v12, ev12, h⟩ := zb_some h
  have hv12 : zV0 v12 := by rw [ev12]; exact hv11.st (zRn (by omega))
  refine pg_12_15 C hnm (zGm ho (show zK 137 = (12, 38) from rfl) (by decide) (by decide)) zic_12 (zm zwd_1005) ev12 (zd tX12_init 25 rfl) ?_
  refine z_aload_n C (zd tX12_init 26 rfl) rfl ?_
  refine z_bipush C (by decide) (zd tX12_init 27 rfl) ?_
  obtain ⟨v13, ev13, h⟩ := zb_some h
  have hv13 : zV0 v13 := by rw [ev13]; exact hv12.fr
  have ea : zEo E + (7) = 144 := by rw [ho]
  refine z_newA C hz hRm (tg := 20) (fty := .int) (N := 64) (M := 64) (k' := 7) (n' := 1058) (nn' := 8) (by simp) rfl (by decide) (by rw [ea]; exact (show zK 144 = (20, 64) from rfl)) (zm zwd_59) ⟨rfl, rfl⟩ ⟨Nat.le_of_ble_eq_true rfl, Nat.le_of_ble_eq_true rfl⟩ ea rfl ev13 (zd tX12_init 28 rfl) ?_
  have C : zC E (8) _ _ _ := C.to (by omega) (by have := hNw.2.2 trivial; omega)
  obtain ⟨v14, ev14, h⟩ := zb_some h
  have hv14 : zV0 v14 := by rw [ev14]; exact hv13.st (zRn (by omega))
  refine pg_12_17 C hnm (zGm ho (show zK 137 = (12, 38) from rfl) (by decide) (by decide)) zic_12 (zm zwd_1007) ev14 (zd tX12_init 29 rfl) ?_
  refine z_aload_n C (zd tX12_init 30 rfl) rfl ?_
  refine z_bipush C (by decide) (zd tX12_init 31 rfl) ?_
  obtain ⟨v15, ev15, h⟩ := zb_some h
  have hv15 : zV0 v15 := by rw [ev15]; exact hv14.fr
  have ea : zEo E + (8) = 145 := by rw [ho]
  refine z_newA C hz hRm (tg := 20) (fty := .int) (N := 61) (M := 61) (k' := 8) (n' := 1119) (nn' := 9) (by simp) rfl (by decide) (by rw [ea]; exact (show zK 145 = (20, 61) from rfl)) (zm zwd_59) ⟨rfl, rfl⟩ ⟨Nat.le_of_ble_eq_true rfl, Nat.le_of_ble_eq_true rfl⟩ ea rfl ev15 (zd tX12_init 32 rfl) ?_
  have C : zC E (9) _ _ _ := C.to (by omega) (by have := hNw.2.2 trivial; omega)
  obtain ⟨v16, ev16, h⟩ := zb_some h
  have hv16 : zV0 v16 := by rw [ev16]; exact hv15.st (zRn (by omega))
  refine pg_12_18 C hnm (zGm ho (show zK 137 = (12, 38) from rfl) (by decide) (by decide)) zic_12 (zm zwd_1008) ev16 (zd tX12_init 33 rfl) ?_
  refine z_aload_n C (zd tX12_init 34 rfl) rfl ?_
  refine z_bipush C (by decide) (zd tX12_init 35 rfl) ?_
  obtain ⟨v17, ev17, h⟩ := zb_some h
  have hv17 : zV0 v17 := by rw [ev17]; exact hv16.fr
  have ea : zEo E + (9) = 146 := by rw [ho]
  refine z_newA C hz hRm (tg := 20) (fty := .int) (N := 31) (M := 31) (k' := 9) (n' := 1150) (nn' := 10) (by simp) rfl (by decide) (by rw [ea]; exact (show zK 146 = (20, 31) from rfl)) (zm zwd_59) ⟨rfl, rfl⟩ ⟨Nat.le_of_ble_eq_true rfl, Nat.le_of_ble_eq_true rfl⟩ ea rfl ev17 (zd tX12_init 36 rfl) ?_
  have C : zC E (10) _ _ _ := C.to (by omega) (by have := hNw.2.2 trivial; omega)
  obtain ⟨v18, ev18, h⟩ := zb_some h
  have hv18 : zV0 v18 := by rw [ev18]; exact hv17.st (zRn (by omega))
  refine pg_12_20 C hnm (zGm ho (show zK 137 = (12, 38) from rfl) (by decide) (by decide)) zic_12 (zm zwd_1010) ev18 (zd tX12_init 37 rfl) ?_
  refine z_aload_n C (zd tX12_init 38 rfl) rfl ?_
  refine z_bipush C (by decide) (zd tX12_init 39 rfl) ?_
  obtain ⟨v19, ev19, h⟩ := zb_some h
  have hv19 : zV0 v19 := by rw [ev19]; exact hv18.fr
  have ea : zEo E + (10) = 147 := by rw [ho]
  refine z_newA C hz hRm (tg := 20) (fty := .int) (N := 31) (M := 31) (k' := 10) (n' := 1181) (nn' := 11) (by simp) rfl (by decide) (by rw [ea]; exact (show zK 147 = (20, 31) from rfl)) (zm zwd_59) ⟨rfl, rfl⟩ ⟨Nat.le_of_ble_eq_true rfl, Nat.le_of_ble_eq_true rfl⟩ ea rfl ev19 (zd tX12_init 40 rfl) ?_
  have C : zC E (11) _ _ _ := C.to (by omega) (by have := hNw.2.2 trivial; omega)
  obtain ⟨v20, ev20, h⟩ := zb_some h
  have hv20 : zV0 v20 := by rw [ev20]; exact hv19.st (zRn (by omega))
  refine pg_12_21 C hnm (zGm ho (show zK 137 = (12, 38) from rfl) (by decide) (by decide)) zic_12 (zm zwd_1011) ev20 (zd tX12_init 41 rfl) ?_
  refine z_aload_n C (zd tX12_init 42 rfl) rfl ?_
  refine z_sipush C (by decide) (zd tX12_init 43 rfl) ?_
  obtain ⟨v21, ev21, h⟩ := zb_some h
  have hv21 : zV0 v21 := by rw [ev21]; exact hv20.fr
  have ea : zEo E + (11) = 148 := by rw [ho]
  refine z_newA C hz hRm (tg := 21) (fty := .boolean) (N := 2720) (M := 2720) (k' := 11) (n' := 3901) (nn' := 12) (by simp) rfl (by decide) (by rw [ea]; exact (show zK 148 = (21, 2720) from rfl)) (zm zwd_335) ⟨rfl, rfl⟩ ⟨Nat.le_of_ble_eq_true rfl, Nat.le_of_ble_eq_true rfl⟩ ea rfl ev21 (zd tX12_init 44 rfl) ?_
  have C : zC E (12) _ _ _ := C.to (by omega) (by have := hNw.2.2 trivial; omega)
  obtain ⟨v22, ev22, h⟩ := zb_some h
  have hv22 : zV0 v22 := by rw [ev22]; exact hv21.st (zRn (by omega))
  refine pg_12_22 C hnm (zGm ho (show zK 137 = (12, 38) from rfl) (by decide) (by decide)) zic_12 (zm zwd_1012) ev22 (zd tX12_init 45 rfl) ?_
  refine z_aload_n C (zd tX12_init 46 rfl) rfl ?_
  refine z_sipush C (by decide) (zd tX12_init 47 rfl) ?_
  obtain ⟨v23, ev23, h⟩ := zb_some h
  have hv23 : zV0 v23 := by rw [ev23]; exact hv22.fr
  have ea : zEo E + (12) = 149 := by rw [ho]
  refine z_newA C hz hRm (tg := 20) (fty := .int) (N := 680) (M := 680) (k' := 12) (n' := 4581) (nn' := 13) (by simp) rfl (by decide) (by rw [ea]; exact (show zK 149 = (20, 680) from rfl)) (zm zwd_59) ⟨rfl, rfl⟩ ⟨Nat.le_of_ble_eq_true rfl, Nat.le_of_ble_eq_true rfl⟩ ea rfl ev23 (zd tX12_init 48 rfl) ?_
  have C : zC E (13) _ _ _ := C.to (by omega) (by have := hNw.2.2 trivial; omega)
  obtain ⟨v24, ev24, h⟩ := zb_some h
  have hv24 : zV0 v24 := by rw [ev24]; exact hv23.st (zRn (by omega))
  refine pg_12_24 C hnm (zGm ho (show zK 137 = (12, 38) from rfl) (by decide) (by decide)) zic_12 (zm zwd_1014) ev24 (zd tX12_init 49 rfl) ?_
  refine z_aload_n C (zd tX12_init 50 rfl) rfl ?_
  refine z_sipush C (by decide) (zd tX12_init 51 rfl) ?_
  obtain ⟨v25, ev25, h⟩ := zb_some h
  have hv25 : zV0 v25 := by rw [ev25]; exact hv24.fr
  have ea : zEo E + (13) = 150 := by rw [ho]
  refine z_newA C hz hRm (tg := 20) (fty := .int) (N := 680) (M := 680) (k' := 13) (n' := 5261) (nn' := 14) (by simp) rfl (by decide) (by rw [ea]; exact (show zK 150 = (20, 680) from rfl)) (zm zwd_59) ⟨rfl, rfl⟩ ⟨Nat.le_of_ble_eq_true rfl, Nat.le_of_ble_eq_true rfl⟩ ea rfl ev25 (zd tX12_init 52 rfl) ?_
  have C : zC E (14) _ _ _ := C.to (by omega) (by have := hNw.2.2 trivial; omega)
  obtain ⟨v26, ev26, h⟩ := zb_some h
  have hv26 : zV0 v26 := by rw [ev26]; exact hv25.st (zRn (by omega))
  refine pg_12_25 C hnm (zGm ho (show zK 137 = (12, 38) from rfl) (by decide) (by decide)) zic_12 (zm zwd_1015) ev26 (zd tX12_init 53 rfl) ?_
  refine z_aload_n C (zd tX12_init 54 rfl) rfl ?_
  refine z_sipush C (by decide) (zd tX12_init 55 rfl) ?_
  obtain ⟨v27, ev27, h⟩ := zb_some h
  have hv27 : zV0 v27 := by rw [ev27]; exact hv26.fr
  have ea : zEo E + (14) = 151 := by rw [ho]
  refine z_newA C hz hRm (tg := 20) (fty := .int) (N := 680) (M := 680) (k' := 14) (n' := 5941) (nn' := 15) (by simp) rfl (by decide) (by rw [ea]; exact (show zK 151 = (20, 680) from rfl)) (zm zwd_59) ⟨rfl, rfl⟩ ⟨Nat.le_of_ble_eq_true rfl, Nat.le_of_ble_eq_true rfl⟩ ea rfl ev27 (zd tX12_init 56 rfl) ?_
  have C : zC E (15) _ _ _ := C.to (by omega) (by have := hNw.2.2 trivial; omega)
  obtain ⟨v28, ev28, h⟩ := zb_some h
  have hv28 : zV0 v28 := by rw [ev28]; exact hv27.st (zRn (by omega))
  refine pg_12_26 C hnm (zGm ho (show zK 137 = (12, 38) from rfl) (by decide) (by decide)) zic_12 (zm zwd_1016) ev28 (zd tX12_init 57 rfl) ?_
  refine z_aload_n C (zd tX12_init 58 rfl) rfl ?_
  refine z_sipush C (by decide) (zd tX12_init 59 rfl) ?_
  obtain ⟨v29, ev29, h⟩ := zb_some h
  have hv29 : zV0 v29 := by rw [ev29]; exact hv28.fr
  have ea : zEo E + (15) = 152 := by rw [ho]
  refine z_newA C hz hRm (tg := 20) (fty := .int) (N := 680) (M := 680) (k' := 15) (n' := 6621) (nn' := 16) (by simp) rfl (by decide) (by rw [ea]; exact (show zK 152 = (20, 680) from rfl)) (zm zwd_59) ⟨rfl, rfl⟩ ⟨Nat.le_of_ble_eq_true rfl, Nat.le_of_ble_eq_true rfl⟩ ea rfl ev29 (zd tX12_init 60 rfl) ?_
  have C : zC E (16) _ _ _ := C.to (by omega) (by have := hNw.2.2 trivial; omega)
  obtain ⟨v30, ev30, h⟩ := zb_some h
  have hv30 : zV0 v30 := by rw [ev30]; exact hv29.st (zRn (by omega))
  refine pg_12_27 C hnm (zGm ho (show zK 137 = (12, 38) from rfl) (by decide) (by decide)) zic_12 (zm zwd_1017) ev30 (zd tX12_init 61 rfl) ?_
  refine z_aload_n C (zd tX12_init 62 rfl) rfl ?_
  refine z_sipush C (by decide) (zd tX12_init 63 rfl) ?_
  obtain ⟨v31, ev31, h⟩ := zb_some h
  have hv31 : zV0 v31 := by rw [ev31]; exact hv30.fr
  have ea : zEo E + (16) = 153 := by rw [ho]
  refine z_newA C hz hRm (tg := 20) (fty := .int) (N := 680) (M := 680) (k' := 16) (n' := 7301) (nn' := 17) (by simp) rfl (by decide) (by rw [ea]; exact (show zK 153 = (20, 680) from rfl)) (zm zwd_59) ⟨rfl, rfl⟩ ⟨Nat.le_of_ble_eq_true rfl, Nat.le_of_ble_eq_true rfl⟩ ea rfl ev31 (zd tX12_init 64 rfl) ?_
  have C : zC E (17) _ _ _ := C.to (by omega) (by have := hNw.2.2 trivial; omega)
  obtain ⟨v32, ev32, h⟩ := zb_some h
  have hv32 : zV0 v32 := by rw [ev32]; exact hv31.st (zRn (by omega))
  refine pg_12_28 C hnm (zGm ho (show zK 137 = (12, 38) from rfl) (by decide) (by decide)) zic_12 (zm zwd_1018) ev32 (zd tX12_init 65 rfl) ?_
  refine z_aload_n C (zd tX12_init 66 rfl) rfl ?_
  refine z_ldc (x := (463000 : Int32)) (i := 463000) C (by decide) (zm zwd_981) (zd tX12_init 67 rfl) ?_
  obtain ⟨v33, ev33, h⟩ := zb_some h
  have hv33 : zV0 v33 := by rw [ev33]; exact hv32.fr
  have ea : zEo E + (17) = 154 := by rw [ho]
  refine z_newA C hz hRm (tg := 20) (fty := .int) (N := 463000) (M := 463000) (k' := 17) (n' := 470301) (nn' := 18) (by simp) rfl (by decide) (by rw [ea]; exact (show zK 154 = (20, 463000) from rfl)) (zm zwd_59) ⟨rfl, rfl⟩ ⟨Nat.le_of_ble_eq_true rfl, Nat.le_of_ble_eq_true rfl⟩ ea rfl ev33 (zd tX12_init 68 rfl) ?_
  have C : zC E (18) _ _ _ := C.to (by omega) (by have := hNw.2.2 trivial; omega)
  obtain ⟨v34, ev34, h⟩ := zb_some h
  have hv34 : zV0 v34 := by rw [ev34]; exact hv33.st (zRn (by omega))
  refine pg_12_29 C hnm (zGm ho (show zK 137 = (12, 38) from rfl) (by decide) (by decide)) zic_12 (zm zwd_1019) ev34 (zd tX12_init 69 rfl) ?_
  refine z_aload_n C (zd tX12_init 70 rfl) rfl ?_
  refine z_sipush C (by decide) (zd tX12_init 71 rfl) ?_
  obtain ⟨v35, ev35, h⟩ := zb_some h
  have hv35 : zV0 v35 := by rw [ev35]; exact hv34.fr
  have ea : zEo E + (18) = 155 := by rw [ho]
  refine z_newA C hz hRm (tg := 20) (fty := .int) (N := 680) (M := 680) (k' := 18) (n' := 470981) (nn' := 19) (by simp) rfl (by decide) (by rw [ea]; exact (show zK 155 = (20, 680) from rfl)) (zm zwd_59) ⟨rfl, rfl⟩ ⟨Nat.le_of_ble_eq_true rfl, Nat.le_of_ble_eq_true rfl⟩ ea rfl ev35 (zd tX12_init 72 rfl) ?_
  have C : zC E (19) _ _ _ := C.to (by omega) (by have := hNw.2.2 trivial; omega)
  obtain ⟨v36, ev36, h⟩ := zb_some h
  have hv36 : zV0 v36 := by rw [ev36]; exact hv35.st (zRn (by omega))
  refine pg_12_30 C hnm (zGm ho (show zK 137 = (12, 38) from rfl) (by decide) (by decide)) zic_12 (zm zwd_1020) ev36 (zd tX12_init 73 rfl) ?_
  refine z_aload_n C (zd tX12_init 74 rfl) rfl ?_
  refine z_sipush C (by decide) (zd tX12_init 75 rfl) ?_
  obtain ⟨v37, ev37, h⟩ := zb_some h
  have hv37 : zV0 v37 := by rw [ev37]; exact hv36.fr
  have ea : zEo E + (19) = 156 := by rw [ho]
  refine z_newA C hz hRm (tg := 20) (fty := .int) (N := 680) (M := 680) (k' := 19) (n' := 471661) (nn' := 20) (by simp) rfl (by decide) (by rw [ea]; exact (show zK 156 = (20, 680) from rfl)) (zm zwd_59) ⟨rfl, rfl⟩ ⟨Nat.le_of_ble_eq_true rfl, Nat.le_of_ble_eq_true rfl⟩ ea rfl ev37 (zd tX12_init 76 rfl) ?_
  have C : zC E (20) _ _ _ := C.to (by omega) (by have := hNw.2.2 trivial; omega)
  obtain ⟨v38, ev38, h⟩ := zb_some h
  have hv38 : zV0 v38 := by rw [ev38]; exact hv37.st (zRn (by omega))
  refine pg_12_31 C hnm (zGm ho (show zK 137 = (12, 38) from rfl) (by decide) (by decide)) zic_12 (zm zwd_1021) ev38 (zd tX12_init 77 rfl) ?_
  refine z_aload_n C (zd tX12_init 78 rfl) rfl ?_
  refine z_sipush C (by decide) (zd tX12_init 79 rfl) ?_
  obtain ⟨v39, ev39, h⟩ := zb_some h
  have hv39 : zV0 v39 := by rw [ev39]; exact hv38.fr
  have ea : zEo E + (20) = 157 := by rw [ho]
  refine z_newA C hz hRm (tg := 21) (fty := .boolean) (N := 5520) (M := 5520) (k' := 20) (n' := 477181) (nn' := 21) (by simp) rfl (by decide) (by rw [ea]; exact (show zK 157 = (21, 5520) from rfl)) (zm zwd_335) ⟨rfl, rfl⟩ ⟨Nat.le_of_ble_eq_true rfl, Nat.le_of_ble_eq_true rfl⟩ ea rfl ev39 (zd tX12_init 80 rfl) ?_
  have C : zC E (21) _ _ _ := C.to (by omega) (by have := hNw.2.2 trivial; omega)
  obtain ⟨v40, ev40, h⟩ := zb_some h
  have hv40 : zV0 v40 := by rw [ev40]; exact hv39.st (zRn (by omega))
  refine pg_12_34 C hnm (zGm ho (show zK 137 = (12, 38) from rfl) (by decide) (by decide)) zic_12 (zm zwd_1024) ev40 (zd tX12_init 81 rfl) ?_
  refine z_aload_n C (zd tX12_init 82 rfl) rfl ?_
  refine z_bipush C (by decide) (zd tX12_init 83 rfl) ?_
  obtain ⟨v41, ev41, h⟩ := zb_some h
  have hv41 : zV0 v41 := by rw [ev41]; exact hv40.fr
  have ea : zEo E + (21) = 158 := by rw [ho]
  refine z_newA C hz hRm (tg := 20) (fty := .int) (N := 8) (M := 8) (k' := 21) (n' := 477189) (nn' := 22) (by simp) rfl (by decide) (by rw [ea]; exact (show zK 158 = (20, 8) from rfl)) (zm zwd_59) ⟨rfl, rfl⟩ ⟨Nat.le_of_ble_eq_true rfl, Nat.le_of_ble_eq_true rfl⟩ ea rfl ev41 (zd tX12_init 84 rfl) ?_
  have C : zC E (22) _ _ _ := C.to (by omega) (by have := hNw.2.2 trivial; omega)
  obtain ⟨v42, ev42, h⟩ := zb_some h
  have hv42 : zV0 v42 := by rw [ev42]; exact hv41.st (zRn (by omega))
  refine pg_12_35 C hnm (zGm ho (show zK 137 = (12, 38) from rfl) (by decide) (by decide)) zic_12 (zm zwd_1025) ev42 (zd tX12_init 85 rfl) ?_
  refine z_aload_n C (zd tX12_init 86 rfl) rfl ?_
  refine z_bipush C (by decide) (zd tX12_init 87 rfl) ?_
  obtain ⟨v43, ev43, h⟩ := zb_some h
  have hv43 : zV0 v43 := by rw [ev43]; exact hv42.fr
  have ea : zEo E + (22) = 159 := by rw [ho]
  refine z_newA C hz hRm (tg := 21) (fty := .boolean) (N := 8) (M := 8) (k' := 22) (n' := 477197) (nn' := 23) (by simp) rfl (by decide) (by rw [ea]; exact (show zK 159 = (21, 8) from rfl)) (zm zwd_335) ⟨rfl, rfl⟩ ⟨Nat.le_of_ble_eq_true rfl, Nat.le_of_ble_eq_true rfl⟩ ea rfl ev43 (zd tX12_init 88 rfl) ?_
  have C : zC E (23) _ _ _ := C.to (by omega) (by have := hNw.2.2 trivial; omega)
  obtain ⟨v44, ev44, h⟩ := zb_some h
  have hv44 : zV0 v44 := by rw [ev44]; exact hv43.st (zRn (by omega))
  refine pg_12_36 C hnm (zGm ho (show zK 137 = (12, 38) from rfl) (by decide) (by decide)) zic_12 (zm zwd_1026) ev44 (zd tX12_init 89 rfl) ?_
  refine z_aload_n C (zd tX12_init 90 rfl) rfl ?_
  refine z_sipush C (by decide) (zd tX12_init 91 rfl) ?_
  obtain ⟨v45, ev45, h⟩ := zb_some h
  have hv45 : zV0 v45 := by rw [ev45]; exact hv44.fr
  have ea : zEo E + (23) = 160 := by rw [ho]
  refine z_newA C hz hRm (tg := 21) (fty := .boolean) (N := 2720) (M := 2720) (k' := 23) (n' := 479917) (nn' := 24) (by simp) rfl (by decide) (by rw [ea]; exact (show zK 160 = (21, 2720) from rfl)) (zm zwd_335) ⟨rfl, rfl⟩ ⟨Nat.le_of_ble_eq_true rfl, Nat.le_of_ble_eq_true rfl⟩ ea rfl ev45 (zd tX12_init 92 rfl) ?_
  have C : zC E (24) _ _ _ := C.to (by omega) (by have := hNw.2.2 trivial; omega)
  obtain ⟨v46, ev46, h⟩ := zb_some h
  have hv46 : zV0 v46 := by rw [ev46]; exact hv45.st (zRn (by omega))
  refine pg_12_37 C hnm (zGm ho (show zK 137 = (12, 38) from rfl) (by decide) (by decide)) zic_12 (zm zwd_1027) ev46 (zd tX12_init 93 rfl) ?_
  refine z_aload_n C (zd tX12_init 94 rfl) rfl ?_
  obtain ⟨qL, h⟩ := zck_some h
  have hvL : zV 137 24 v46 := zV_links hv46.1 qL
  refine z_forget ?_
  have C : zC (zFg E) 24 cX12_init RX12 vsX12_init := C
  have ho : zEo (zFg E) = 137 := ho
  have hz : zEz (zFg E) = False := rfl
  have hRm : zER (zFg E) = rmX12_init := hRm
  have hN : zEN (zFg E) = 1 := hN
  obtain ⟨w201, rw201, cw201, h⟩ := zcl_some h
  refine zc_VA (mc := 0) (ms := 0) (k' := 23) (n' := 479917) C ho hz hRm (qX12_clearsDraft _ _ _ _ hvL cw201) (lg_137 ho) (by decide) rfl (zgV zwd_982 zwd_984 zws_31 zwd_13 zwd_985) rfl pX12_clearsDraft rfl ⟨rfl, rfl⟩ ⟨Nat.le_of_ble_eq_true rfl, Nat.le_of_ble_eq_true rfl⟩ ⟨rfl, rfl⟩ ⟨Nat.le_of_ble_eq_true rfl, Nat.le_of_ble_eq_true rfl⟩ [] rfl (Nat.le_of_ble_eq_true rfl) (zd tX12_init 95 rfl) [] rfl (fun pw201 => ?_)
  refine z_aload_n C (zd tX12_init 96 rfl) rfl ?_
  obtain ⟨w205, rw205, cw205, h⟩ := zcl_some h
  refine zc_VA (mc := 0) (ms := 0) (k' := 23) (n' := 479917) C ho hz hRm (qX12_takes _ _ _ _ pw201 cw205) (lg_137 ho) (by decide) rfl (zgV zwd_986 zwd_988 zws_32 zwd_13 zwd_989) rfl pX12_takes rfl ⟨rfl, rfl⟩ ⟨Nat.le_of_ble_eq_true rfl, Nat.le_of_ble_eq_true rfl⟩ ⟨rfl, rfl⟩ ⟨Nat.le_of_ble_eq_true rfl, Nat.le_of_ble_eq_true rfl⟩ [] rfl (Nat.le_of_ble_eq_true rfl) (zd tX12_init 97 rfl) [] rfl (fun pw205 => ?_)
  obtain ⟨rfl, rfl⟩ := zpi h
  exact ret.2.1 _ _ pw205 rfl rfl (zd tX12_init 98 rfl)
