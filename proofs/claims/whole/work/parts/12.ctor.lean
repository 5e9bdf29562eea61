/-! constructors. Laid by wip/whole/genctor.py. -/
theorem zRn {a : Nat} (h : a < 1000) : zR (a : Int) := ⟨by omega, by omega⟩
def fX9_init (v : zHp) : Option (zHp × Int) := zb (zfr v 2) fun v1 => zb (zst v1 1 0 ((2 : Nat) : Int)) fun v2 => some (v2, 0)
def fX6_init (v : zHp) : Option (zHp × Int) := some (v, 0)
def fX2_init (v : zHp) (a0 : Nat) : Option (zHp × Int) := zb (zst v a0 0 (-1)) fun v1 => zb (zst v1 a0 1 (-1)) fun v2 => zb (zst v2 a0 2 (-1)) fun v3 => some (v3, 0)
def fX5_init (v : zHp) (a0 : Nat) : Option (zHp × Int) := some (v, 0)
def fX1_init (v : zHp) (a0 : Nat) : Option (zHp × Int) := zb (zfr v (a0 + 1)) fun v1 => zb (zst v1 a0 0 ((a0 + 1 : Nat) : Int)) fun v2 => zb (zfr v2 (a0 + 2)) fun v3 => zb (zst v3 a0 1 ((a0 + 2 : Nat) : Int)) fun v4 => some (v4, 0)
def fX3_init (v : zHp) : Option (zHp × Int) := zb (zfr v 103) fun v1 => zb (zst v1 102 0 ((103 : Nat) : Int)) fun v2 => zb (zfr v2 104) fun v3 => zb (zst v3 102 1 ((104 : Nat) : Int)) fun v4 => zb (zfr v4 105) fun v5 => zb (zst v5 102 2 ((105 : Nat) : Int)) fun v6 => zb (zfr v6 106) fun v7 => zb (zst v7 102 3 ((106 : Nat) : Int)) fun v8 => some (v8, 0)
def fX4_init (v : zHp) (a0 : Nat) : Option (zHp × Int) := zb (zfr v (a0 + 1)) fun v1 => zb (zst v1 a0 0 ((a0 + 1 : Nat) : Int)) fun v2 => zb (zfr v2 (a0 + 2)) fun v3 => zb (zst v3 a0 1 ((a0 + 2 : Nat) : Int)) fun v4 => some (v4, 0)
def fX10_init (v : zHp) : Option (zHp × Int) := zb (zfr v 127) fun v1 => zb (zst v1 126 0 ((127 : Nat) : Int)) fun v2 => zb (zfr v2 128) fun v3 => zb (zst v3 126 1 ((128 : Nat) : Int)) fun v4 => zb (zfr v4 129) fun v5 => zb (zst v5 126 2 ((129 : Nat) : Int)) fun v6 => some (v6, 0)
def fX2_setN (v : zHp) (a0 : Nat) : Option (zHp × Int) := zb (zst v a0 0 (-1)) fun v1 => zb (zst v1 a0 1 (-1)) fun v2 => zb (zst v2 a0 2 (-1)) fun v3 => zb (zst v3 a0 3 (-1500)) fun v4 => zb (zst v4 a0 4 0) fun v5 => some (v5, 0)
def fX7_clearN (v : zHp) (a0 : Nat) : Option (zHp × Int) := zck (v a0 0 = ((a0 + 1 : Nat) : Int)) <| zcl (fX2_setN v (a0 + 1)) fun v2 r3 => zb (zst v2 a0 2 0) fun v5 => zb (zst v5 a0 4 0) fun v6 => zb (zst v6 a0 5 7) fun v7 => zb (zst v7 a0 6 0) fun v8 => zb (zst v8 a0 7 0) fun v9 => zb (zst v9 a0 8 16) fun v10 => zb (zst v10 a0 9 100) fun v11 => some (v11, 0)
def fX7_init (v : zHp) (a0 : Nat) : Option (zHp × Int) := zb (zfr v (a0 + 1)) fun v1 => zcl (fX2_init v1 (a0 + 1)) fun v2 r3 => zb (zst v2 a0 0 ((a0 + 1 : Nat) : Int)) fun v5 => zb (zfr v5 (a0 + 2)) fun v6 => zb (zst v6 a0 1 ((a0 + 2 : Nat) : Int)) fun v7 => zb (zfr v7 (a0 + 3)) fun v8 => zb (zst v8 a0 3 ((a0 + 3 : Nat) : Int)) fun v9 => zck (v9 a0 1 = ((a0 + 2 : Nat) : Int)) <| zb (zfr v9 (a0 + 4)) fun v11 => zcl (fX5_init v11 (a0 + 4)) fun v12 r13 => zb (zst v12 (a0 + 2) 0 ((a0 + 4 : Nat) : Int)) fun v15 => zck (v15 a0 1 = ((a0 + 2 : Nat) : Int)) <| zb (zfr v15 (a0 + 5)) fun v17 => zcl (fX5_init v17 (a0 + 5)) fun v18 r19 => zb (zst v18 (a0 + 2) 1 ((a0 + 5 : Nat) : Int)) fun v21 => zck (v21 a0 1 = ((a0 + 2 : Nat) : Int)) <| zb (zfr v21 (a0 + 6)) fun v23 => zcl (fX5_init v23 (a0 + 6)) fun v24 r25 => zb (zst v24 (a0 + 2) 2 ((a0 + 6 : Nat) : Int)) fun v27 => zck (v27 a0 1 = ((a0 + 2 : Nat) : Int)) <| zb (zfr v27 (a0 + 7)) fun v29 => zcl (fX5_init v29 (a0 + 7)) fun v30 r31 => zb (zst v30 (a0 + 2) 3 ((a0 + 7 : Nat) : Int)) fun v33 => zck (v33 a0 1 = ((a0 + 2 : Nat) : Int)) <| zb (zfr v33 (a0 + 8)) fun v35 => zcl (fX5_init v35 (a0 + 8)) fun v36 r37 => zb (zst v36 (a0 + 2) 4 ((a0 + 8 : Nat) : Int)) fun v39 => zck (v39 a0 1 = ((a0 + 2 : Nat) : Int)) <| zb (zfr v39 (a0 + 9)) fun v41 => zcl (fX5_init v41 (a0 + 9)) fun v42 r43 => zb (zst v42 (a0 + 2) 5 ((a0 + 9 : Nat) : Int)) fun v45 => zck (v45 a0 1 = ((a0 + 2 : Nat) : Int)) <| zb (zfr v45 (a0 + 10)) fun v47 => zcl (fX5_init v47 (a0 + 10)) fun v48 r49 => zb (zst v48 (a0 + 2) 6 ((a0 + 10 : Nat) : Int)) fun v51 => zck (v51 a0 1 = ((a0 + 2 : Nat) : Int)) <| zb (zfr v51 (a0 + 11)) fun v53 => zcl (fX5_init v53 (a0 + 11)) fun v54 r55 => zb (zst v54 (a0 + 2) 7 ((a0 + 11 : Nat) : Int)) fun v57 => zcl (fX7_clearN v57 a0) fun v58 r59 => some (v58, 0)
def fX8_init (v : zHp) (a0 : Nat) : Option (zHp × Int) := zb (zst v a0 0 1) fun v1 => zb (zfr v1 (a0 + 1)) fun v2 => zb (zst v2 a0 1 ((a0 + 1 : Nat) : Int)) fun v3 => zb (zfr v3 (a0 + 2)) fun v4 => zb (zst v4 a0 2 ((a0 + 2 : Nat) : Int)) fun v5 => zb (zfr v5 (a0 + 3)) fun v6 => zb (zst v6 a0 3 ((a0 + 3 : Nat) : Int)) fun v7 => zb (zfr v7 (a0 + 4)) fun v8 => zb (zst v8 a0 4 ((a0 + 4 : Nat) : Int)) fun v9 => zb (zfr v9 (a0 + 5)) fun v10 => zb (zst v10 a0 6 ((a0 + 5 : Nat) : Int)) fun v11 => zb (zfr v11 (a0 + 6)) fun v12 => zb (zst v12 a0 7 ((a0 + 6 : Nat) : Int)) fun v13 => zb (zfr v13 (a0 + 7)) fun v14 => zb (zst v14 a0 8 ((a0 + 7 : Nat) : Int)) fun v15 => zb (zfr v15 (a0 + 8)) fun v16 => zcl (fX4_init v16 (a0 + 8)) fun v17 r18 => zb (zst v17 a0 9 ((a0 + 8 : Nat) : Int)) fun v20 => zb (zfr v20 (a0 + 11)) fun v21 => zcl (fX4_init v21 (a0 + 11)) fun v22 r23 => zb (zst v22 a0 10 ((a0 + 11 : Nat) : Int)) fun v25 => zb (zfr v25 (a0 + 14)) fun v26 => zb (zst v26 a0 11 ((a0 + 14 : Nat) : Int)) fun v27 => some (v27, 0)
def fX0_init (v : zHp) : Option (zHp × Int) := zb (zfr v 126) fun v1 => zcl (fX10_init v1) fun v2 r3 => zb (zst v2 125 0 ((126 : Nat) : Int)) fun v5 => zb (zfr v5 130) fun v6 => zb (zst v6 125 1 ((130 : Nat) : Int)) fun v7 => zb (zfr v7 131) fun v8 => zb (zst v8 125 2 ((131 : Nat) : Int)) fun v9 => zb (zfr v9 132) fun v10 => zb (zst v10 125 3 ((132 : Nat) : Int)) fun v11 => zb (zfr v11 133) fun v12 => zb (zst v12 125 4 ((133 : Nat) : Int)) fun v13 => zb (zfr v13 134) fun v14 => zb (zst v14 125 5 ((134 : Nat) : Int)) fun v15 => zb (zfr v15 135) fun v16 => zb (zst v16 125 6 ((135 : Nat) : Int)) fun v17 => zb (zfr v17 136) fun v18 => zb (zst v18 125 7 ((136 : Nat) : Int)) fun v19 => some (v19, 0)
def fX11_init (v : zHp) : Option (zHp × Int) := zb (zfr v 1) fun v1 => zcl (fX9_init v1) fun v2 r3 => zb (zst v2 0 0 ((1 : Nat) : Int)) fun v5 => zb (zfr v5 3) fun v6 => zcl (fX6_init v6) fun v7 r8 => zb (zst v7 0 1 ((3 : Nat) : Int)) fun v10 => zb (zfr v10 4) fun v11 => zcl (fX7_init v11 4) fun v12 r13 => zb (zst v12 0 2 ((4 : Nat) : Int)) fun v15 => zb (zfr v15 16) fun v16 => zcl (fX7_init v16 16) fun v17 r18 => zb (zst v17 0 3 ((16 : Nat) : Int)) fun v20 => zb (zfr v20 28) fun v21 => zb (zst v21 0 4 ((28 : Nat) : Int)) fun v22 => zb (zfr v22 29) fun v23 => zb (zst v23 0 5 ((29 : Nat) : Int)) fun v24 => zck (v24 0 4 = ((28 : Nat) : Int)) <| zb (zfr v24 30) fun v26 => zcl (fX1_init v26 30) fun v27 r28 => zb (zst v27 28 0 ((30 : Nat) : Int)) fun v30 => zck (v30 0 5 = ((29 : Nat) : Int)) <| zb (zfr v30 33) fun v32 => zcl (fX8_init v32 33) fun v33 r34 => zb (zst v33 29 0 ((33 : Nat) : Int)) fun v36 => zck (v36 0 4 = ((28 : Nat) : Int)) <| zb (zfr v36 48) fun v38 => zcl (fX1_init v38 48) fun v39 r40 => zb (zst v39 28 1 ((48 : Nat) : Int)) fun v42 => zck (v42 0 5 = ((29 : Nat) : Int)) <| zb (zfr v42 51) fun v44 => zcl (fX8_init v44 51) fun v45 r46 => zb (zst v45 29 1 ((51 : Nat) : Int)) fun v48 => zck (v48 0 4 = ((28 : Nat) : Int)) <| zb (zfr v48 66) fun v50 => zcl (fX1_init v50 66) fun v51 r52 => zb (zst v51 28 2 ((66 : Nat) : Int)) fun v54 => zck (v54 0 5 = ((29 : Nat) : Int)) <| zb (zfr v54 69) fun v56 => zcl (fX8_init v56 69) fun v57 r58 => zb (zst v57 29 2 ((69 : Nat) : Int)) fun v60 => zck (v60 0 4 = ((28 : Nat) : Int)) <| zb (zfr v60 84) fun v62 => zcl (fX1_init v62 84) fun v63 r64 => zb (zst v63 28 3 ((84 : Nat) : Int)) fun v66 => zck (v66 0 5 = ((29 : Nat) : Int)) <| zb (zfr v66 87) fun v68 => zcl (fX8_init v68 87) fun v69 r70 => zb (zst v69 29 3 ((87 : Nat) : Int)) fun v72 => zb (zfr v72 102) fun v73 => zcl (fX3_init v73) fun v74 r75 => zb (zst v74 0 6 ((102 : Nat) : Int)) fun v77 => zb (zfr v77 107) fun v78 => zcl (fX1_init v78 107) fun v79 r80 => zb (zst v79 0 7 ((107 : Nat) : Int)) fun v82 => zb (zfr v82 110) fun v83 => zcl (fX8_init v83 110) fun v84 r85 => zb (zst v84 0 8 ((110 : Nat) : Int)) fun v87 => zb (zfr v87 125) fun v88 => zcl (fX0_init v88) fun v89 r90 => zb (zst v89 0 9 ((125 : Nat) : Int)) fun v92 => some (v92, 0)
noncomputable def vsX9_init : List Cond := .code yX9_init cX9_init 1 none :: zbig
theorem pX9_init : yX9_init.cls = RX9 ∧ yX9_init.cls ≠ "java/lang/invoke/MethodHandle" ∧ yX9_init.cls ≠ "java/lang/invoke/VarHandle" ∧ (parseMethodDescriptor yX9_init.desc).map (fun d => d.parameters.length) = some 0 := by decide +kernel
abbrev rmX9_init : Room := { frames := 1, cells := 1, slots := 400, locals := 24 }
set_option maxRecDepth 100000 in
set_option maxHeartbeats 4000000 in
theorem qX9_init (l : Launch) (D : va_G) (ids : Nat → ClassId) (b : Nat) {v v' : zHp} {r' : Int} (hv : zV0 v) (h : fX9_init v = some (v', r')) : zCTN l yX9_init vsX9_init rmX9_init D ids b 0 True (2) [zr 1] v (3) (zV0 v') none v' 1 400 := by
  refine zMetN (own := RX9) (by decide +kernel) (show vsX9_init = _ from rfl) (Nat.le_of_ble_eq_true rfl) rfl ?_
  intro E hl hRm hD hids hb ho hz hN C hNw hname ret
  subst hl hD hids hb
  have hnm : (zEme E).name = "<init>" := hname
  unfold fX9_init at h
  refine z_aload_n C (zd tX9_init 0 rfl) rfl ?_
  refine z_objInit C hRm (zm zwd_36) (zm zwd_29) (zm zwd_30) ⟨Nat.le_of_ble_eq_true rfl, Nat.le_of_ble_eq_true rfl⟩ (zd tX9_init 1 rfl) ?_
  refine z_aload_n C (zd tX9_init 2 rfl) rfl ?_
  refine z_sipush C (by decide) (zd tX9_init 3 rfl) ?_
  obtain ⟨v1, ev1, h⟩ := zb_some h
  have hv1 : zV0 v1 := by rw [ev1]; exact hv.fr
  have ea : zEo E + (2) = 2 := by rw [ho]
  refine z_newA C hz hRm (tg := 20) (fty := .int) (N := 400) (M := 400) (k' := 1) (n' := 400) (nn' := 3) (by simp) rfl (by decide) (by rw [ea]; exact (show zK 2 = (20, 400) from rfl)) (zm zwd_59) ⟨rfl, rfl⟩ ⟨Nat.le_of_ble_eq_true rfl, Nat.le_of_ble_eq_true rfl⟩ ea rfl ev1 (zd tX9_init 4 rfl) ?_
  have C : zC E (3) _ _ _ := C.to (by omega) (by have := hNw.2.2 trivial; omega)
  obtain ⟨v2, ev2, h⟩ := zb_some h
  have hv2 : zV0 v2 := by rw [ev2]; exact hv1.st (zRn (by omega))
  refine pg_9_0 C hnm (zGn ho (show zK 1 = (9, 6) from rfl) (by omega)) zic_9 (zm zwd_37) ev2 (zd tX9_init 5 rfl) ?_
  obtain ⟨rfl, rfl⟩ := zpi h
  exact ret.2.1 _ _ hv2 rfl rfl (zd tX9_init 6 rfl)
noncomputable def vsX6_init : List Cond := .code yX6_init cX6_init 1 none :: zbig
theorem pX6_init : yX6_init.cls = RX6 ∧ yX6_init.cls ≠ "java/lang/invoke/MethodHandle" ∧ yX6_init.cls ≠ "java/lang/invoke/VarHandle" ∧ (parseMethodDescriptor yX6_init.desc).map (fun d => d.parameters.length) = some 0 := by decide +kernel
abbrev rmX6_init : Room := { frames := 1, cells := 0, slots := 0, locals := 24 }
set_option maxRecDepth 100000 in
set_option maxHeartbeats 4000000 in
theorem qX6_init (l : Launch) (D : va_G) (ids : Nat → ClassId) (b : Nat) {v v' : zHp} {r' : Int} (hv : zV0 v) (h : fX6_init v = some (v', r')) : zCTN l yX6_init vsX6_init rmX6_init D ids b 0 True (4) [zr 3] v (4) (zV0 v') none v' 0 0 := by
  refine zMetN (own := RX6) (by decide +kernel) (show vsX6_init = _ from rfl) (Nat.le_of_ble_eq_true rfl) rfl ?_
  intro E hl hRm hD hids hb ho hz hN C hNw hname ret
  subst hl hD hids hb
  have hnm : (zEme E).name = "<init>" := hname
  unfold fX6_init at h
  refine z_aload_n C (zd tX6_init 0 rfl) rfl ?_
  refine z_objInit C hRm (zm zwd_65) (zm zwd_29) (zm zwd_30) ⟨Nat.le_of_ble_eq_true rfl, Nat.le_of_ble_eq_true rfl⟩ (zd tX6_init 1 rfl) ?_
  obtain ⟨rfl, rfl⟩ := zpi h
  exact ret.2.1 _ _ hv rfl rfl (zd tX6_init 2 rfl)
noncomputable def vsX2_init : List Cond := .code yX2_init cX2_init 1 none :: zbig
theorem pX2_init : yX2_init.cls = RX2 ∧ yX2_init.cls ≠ "java/lang/invoke/MethodHandle" ∧ yX2_init.cls ≠ "java/lang/invoke/VarHandle" ∧ (parseMethodDescriptor yX2_init.desc).map (fun d => d.parameters.length) = some 0 := by decide +kernel
abbrev rmX2_init : Room := { frames := 1, cells := 0, slots := 0, locals := 24 }
set_option maxRecDepth 100000 in
set_option maxHeartbeats 4000000 in
theorem qX2_init (l : Launch) (D : va_G) (ids : Nat → ClassId) (b : Nat) {a0 : Nat} (k0 : zK a0 = (2, 5)) {v v' : zHp} {r' : Int} (hv : zV0 v) (h : fX2_init v a0 = some (v', r')) : zCTN l yX2_init vsX2_init rmX2_init D ids b 0 True (a0 + 1) [zr a0] v (a0 + 1) (zV0 v') none v' 0 0 := by
  refine zMetN (own := RX2) (by decide +kernel) (show vsX2_init = _ from rfl) (Nat.le_of_ble_eq_true rfl) rfl ?_
  intro E hl hRm hD hids hb ho hz hN C hNw hname ret
  subst hl hD hids hb
  have hnm : (zEme E).name = "<init>" := hname
  have ka := zK_lt a0 (by rw [k0]; decide)
  have kb := (kg_2 ho k0).2.2
  unfold fX2_init at h
  refine z_aload_n C (zd tX2_init 0 rfl) rfl ?_
  refine z_objInit C hRm (zm zwd_84) (zm zwd_29) (zm zwd_30) ⟨Nat.le_of_ble_eq_true rfl, Nat.le_of_ble_eq_true rfl⟩ (zd tX2_init 1 rfl) ?_
  refine z_aload_n C (zd tX2_init 2 rfl) rfl ?_
  refine z_iconst C (zd tX2_init 3 rfl) ?_
  obtain ⟨v1, ev1, h⟩ := zb_some h
  have hv1 : zV0 v1 := by rw [ev1]; exact hv.st (zR_c (-1) rfl)
  refine pf_2_0 C (zGn ho k0 (by omega)) zic_2 (zm zwd_85) ev1 (zd tX2_init 4 rfl) ?_
  refine z_aload_n C (zd tX2_init 5 rfl) rfl ?_
  refine z_iconst C (zd tX2_init 6 rfl) ?_
  obtain ⟨v2, ev2, h⟩ := zb_some h
  have hv2 : zV0 v2 := by rw [ev2]; exact hv1.st (zR_c (-1) rfl)
  refine pf_2_1 C (zGn ho k0 (by omega)) zic_2 (zm zwd_87) ev2 (zd tX2_init 7 rfl) ?_
  refine z_aload_n C (zd tX2_init 8 rfl) rfl ?_
  refine z_iconst C (zd tX2_init 9 rfl) ?_
  obtain ⟨v3, ev3, h⟩ := zb_some h
  have hv3 : zV0 v3 := by rw [ev3]; exact hv2.st (zR_c (-1) rfl)
  refine pf_2_2 C (zGn ho k0 (by omega)) zic_2 (zm zwd_89) ev3 (zd tX2_init 10 rfl) ?_
  obtain ⟨rfl, rfl⟩ := zpi h
  exact ret.2.1 _ _ hv3 rfl rfl (zd tX2_init 11 rfl)
noncomputable def vsX5_init : List Cond := .code yX5_init cX5_init 1 none :: zbig
theorem pX5_init : yX5_init.cls = RX5 ∧ yX5_init.cls ≠ "java/lang/invoke/MethodHandle" ∧ yX5_init.cls ≠ "java/lang/invoke/VarHandle" ∧ (parseMethodDescriptor yX5_init.desc).map (fun d => d.parameters.length) = some 0 := by decide +kernel
abbrev rmX5_init : Room := { frames := 1, cells := 0, slots := 0, locals := 24 }
set_option maxRecDepth 100000 in
set_option maxHeartbeats 4000000 in
theorem qX5_init (l : Launch) (D : va_G) (ids : Nat → ClassId) (b : Nat) {a0 : Nat} (k0 : zK a0 = (5, 5)) {v v' : zHp} {r' : Int} (hv : zV0 v) (h : fX5_init v a0 = some (v', r')) : zCTN l yX5_init vsX5_init rmX5_init D ids b 0 True (a0 + 1) [zr a0] v (a0 + 1) (zV0 v') none v' 0 0 := by
  refine zMetN (own := RX5) (by decide +kernel) (show vsX5_init = _ from rfl) (Nat.le_of_ble_eq_true rfl) rfl ?_
  intro E hl hRm hD hids hb ho hz hN C hNw hname ret
  subst hl hD hids hb
  have hnm : (zEme E).name = "<init>" := hname
  have ka := zK_lt a0 (by rw [k0]; decide)
  have kb := (kg_5 ho k0).2.2
  unfold fX5_init at h
  refine z_aload_n C (zd tX5_init 0 rfl) rfl ?_
  refine z_objInit C hRm (zm zwd_110) (zm zwd_29) (zm zwd_30) ⟨Nat.le_of_ble_eq_true rfl, Nat.le_of_ble_eq_true rfl⟩ (zd tX5_init 1 rfl) ?_
  obtain ⟨rfl, rfl⟩ := zpi h
  exact ret.2.1 _ _ hv rfl rfl (zd tX5_init 2 rfl)
noncomputable def vsX1_init : List Cond := .code yX1_init cX1_init 1 none :: zbig
theorem pX1_init : yX1_init.cls = RX1 ∧ yX1_init.cls ≠ "java/lang/invoke/MethodHandle" ∧ yX1_init.cls ≠ "java/lang/invoke/VarHandle" ∧ (parseMethodDescriptor yX1_init.desc).map (fun d => d.parameters.length) = some 0 := by decide +kernel
abbrev rmX1_init : Room := { frames := 1, cells := 2, slots := 120, locals := 24 }
set_option maxRecDepth 100000 in
set_option maxHeartbeats 4000000 in
theorem qX1_init (l : Launch) (D : va_G) (ids : Nat → ClassId) (b : Nat) {a0 : Nat} (k0 : zK a0 = (1, 3)) {v v' : zHp} {r' : Int} (hv : zV0 v) (h : fX1_init v a0 = some (v', r')) : zCTN l yX1_init vsX1_init rmX1_init D ids b 0 True (a0 + 1) [zr a0] v (a0 + 3) (zV0 v') none v' 2 120 := by
  refine zMetN (own := RX1) (by decide +kernel) (show vsX1_init = _ from rfl) (Nat.le_of_ble_eq_true rfl) rfl ?_
  intro E hl hRm hD hids hb ho hz hN C hNw hname ret
  subst hl hD hids hb
  have hnm : (zEme E).name = "<init>" := hname
  have ka := zK_lt a0 (by rw [k0]; decide)
  have kb := (kg_1 ho k0).2.2
  unfold fX1_init at h
  refine z_aload_n C (zd tX1_init 0 rfl) rfl ?_
  refine z_objInit C hRm (zm zwd_214) (zm zwd_29) (zm zwd_30) ⟨Nat.le_of_ble_eq_true rfl, Nat.le_of_ble_eq_true rfl⟩ (zd tX1_init 1 rfl) ?_
  refine z_aload_n C (zd tX1_init 2 rfl) rfl ?_
  refine z_bipush C (by decide) (zd tX1_init 3 rfl) ?_
  obtain ⟨v1, ev1, h⟩ := zb_some h
  have hv1 : zV0 v1 := by rw [ev1]; exact hv.fr
  have ea : zEo E + (a0 + 1) = a0 + 1 := by rw [ho]; omega
  refine z_newA C hz hRm (tg := 20) (fty := .int) (N := 60) (M := 60) (k' := 1) (n' := 60) (nn' := a0 + 2) (by simp) rfl (by decide) (by rw [ea]; exact (kx_1_1 k0)) (zm zwd_59) ⟨rfl, rfl⟩ ⟨Nat.le_of_ble_eq_true rfl, Nat.le_of_ble_eq_true rfl⟩ ea rfl ev1 (zd tX1_init 4 rfl) ?_
  have C : zC E (a0 + 2) _ _ _ := C.to (by omega) (by have := hNw.2.2 trivial; omega)
  obtain ⟨v2, ev2, h⟩ := zb_some h
  have hv2 : zV0 v2 := by rw [ev2]; exact hv1.st (zRn (by omega))
  refine pg_1_0 C hnm (zGn ho k0 (by omega)) zic_1 (zm zwd_215) ev2 (zd tX1_init 5 rfl) ?_
  refine z_aload_n C (zd tX1_init 6 rfl) rfl ?_
  refine z_bipush C (by decide) (zd tX1_init 7 rfl) ?_
  obtain ⟨v3, ev3, h⟩ := zb_some h
  have hv3 : zV0 v3 := by rw [ev3]; exact hv2.fr
  have ea : zEo E + (a0 + 2) = a0 + 2 := by rw [ho]; omega
  refine z_newA C hz hRm (tg := 20) (fty := .int) (N := 60) (M := 60) (k' := 2) (n' := 120) (nn' := a0 + 3) (by simp) rfl (by decide) (by rw [ea]; exact (kx_1_2 k0)) (zm zwd_59) ⟨rfl, rfl⟩ ⟨Nat.le_of_ble_eq_true rfl, Nat.le_of_ble_eq_true rfl⟩ ea rfl ev3 (zd tX1_init 8 rfl) ?_
  have C : zC E (a0 + 3) _ _ _ := C.to (by omega) (by have := hNw.2.2 trivial; omega)
  obtain ⟨v4, ev4, h⟩ := zb_some h
  have hv4 : zV0 v4 := by rw [ev4]; exact hv3.st (zRn (by omega))
  refine pg_1_1 C hnm (zGn ho k0 (by omega)) zic_1 (zm zwd_218) ev4 (zd tX1_init 9 rfl) ?_
  obtain ⟨rfl, rfl⟩ := zpi h
  exact ret.2.1 _ _ hv4 rfl rfl (zd tX1_init 10 rfl)
noncomputable def vsX3_init : List Cond := .code yX3_init cX3_init 1 none :: zbig
theorem pX3_init : yX3_init.cls = RX3 ∧ yX3_init.cls ≠ "java/lang/invoke/MethodHandle" ∧ yX3_init.cls ≠ "java/lang/invoke/VarHandle" ∧ (parseMethodDescriptor yX3_init.desc).map (fun d => d.parameters.length) = some 0 := by decide +kernel
abbrev rmX3_init : Room := { frames := 1, cells := 4, slots := 64, locals := 24 }
set_option maxRecDepth 100000 in
set_option maxHeartbeats 4000000 in
theorem qX3_init (l : Launch) (D : va_G) (ids : Nat → ClassId) (b : Nat) {v v' : zHp} {r' : Int} (hv : zV0 v) (h : fX3_init v = some (v', r')) : zCTN l yX3_init vsX3_init rmX3_init D ids b 0 True (103) [zr 102] v (107) (zV0 v') none v' 4 64 := by
  refine zMetN (own := RX3) (by decide +kernel) (show vsX3_init = _ from rfl) (Nat.le_of_ble_eq_true rfl) rfl ?_
  intro E hl hRm hD hids hb ho hz hN C hNw hname ret
  subst hl hD hids hb
  have hnm : (zEme E).name = "<init>" := hname
  unfold fX3_init at h
  refine z_aload_n C (zd tX3_init 0 rfl) rfl ?_
  refine z_objInit C hRm (zm zwd_313) (zm zwd_29) (zm zwd_30) ⟨Nat.le_of_ble_eq_true rfl, Nat.le_of_ble_eq_true rfl⟩ (zd tX3_init 1 rfl) ?_
  refine z_aload_n C (zd tX3_init 2 rfl) rfl ?_
  refine z_bipush C (by decide) (zd tX3_init 3 rfl) ?_
  obtain ⟨v1, ev1, h⟩ := zb_some h
  have hv1 : zV0 v1 := by rw [ev1]; exact hv.fr
  have ea : zEo E + (103) = 103 := by rw [ho]
  refine z_newA C hz hRm (tg := 20) (fty := .int) (N := 16) (M := 16) (k' := 1) (n' := 16) (nn' := 104) (by simp) rfl (by decide) (by rw [ea]; exact (show zK 103 = (20, 16) from rfl)) (zm zwd_59) ⟨rfl, rfl⟩ ⟨Nat.le_of_ble_eq_true rfl, Nat.le_of_ble_eq_true rfl⟩ ea rfl ev1 (zd tX3_init 4 rfl) ?_
  have C : zC E (104) _ _ _ := C.to (by omega) (by have := hNw.2.2 trivial; omega)
  obtain ⟨v2, ev2, h⟩ := zb_some h
  have hv2 : zV0 v2 := by rw [ev2]; exact hv1.st (zRn (by omega))
  refine pg_3_0 C hnm (zGn ho (show zK 102 = (3, 5) from rfl) (by omega)) zic_3 (zm zwd_314) ev2 (zd tX3_init 5 rfl) ?_
  refine z_aload_n C (zd tX3_init 6 rfl) rfl ?_
  refine z_bipush C (by decide) (zd tX3_init 7 rfl) ?_
  obtain ⟨v3, ev3, h⟩ := zb_some h
  have hv3 : zV0 v3 := by rw [ev3]; exact hv2.fr
  have ea : zEo E + (104) = 104 := by rw [ho]
  refine z_newA C hz hRm (tg := 20) (fty := .int) (N := 16) (M := 16) (k' := 2) (n' := 32) (nn' := 105) (by simp) rfl (by decide) (by rw [ea]; exact (show zK 104 = (20, 16) from rfl)) (zm zwd_59) ⟨rfl, rfl⟩ ⟨Nat.le_of_ble_eq_true rfl, Nat.le_of_ble_eq_true rfl⟩ ea rfl ev3 (zd tX3_init 8 rfl) ?_
  have C : zC E (105) _ _ _ := C.to (by omega) (by have := hNw.2.2 trivial; omega)
  obtain ⟨v4, ev4, h⟩ := zb_some h
  have hv4 : zV0 v4 := by rw [ev4]; exact hv3.st (zRn (by omega))
  refine pg_3_1 C hnm (zGn ho (show zK 102 = (3, 5) from rfl) (by omega)) zic_3 (zm zwd_316) ev4 (zd tX3_init 9 rfl) ?_
  refine z_aload_n C (zd tX3_init 10 rfl) rfl ?_
  refine z_bipush C (by decide) (zd tX3_init 11 rfl) ?_
  obtain ⟨v5, ev5, h⟩ := zb_some h
  have hv5 : zV0 v5 := by rw [ev5]; exact hv4.fr
  have ea : zEo E + (105) = 105 := by rw [ho]
  refine z_newA C hz hRm (tg := 20) (fty := .int) (N := 16) (M := 16) (k' := 3) (n' := 48) (nn' := 106) (by simp) rfl (by decide) (by rw [ea]; exact (show zK 105 = (20, 16) from rfl)) (zm zwd_59) ⟨rfl, rfl⟩ ⟨Nat.le_of_ble_eq_true rfl, Nat.le_of_ble_eq_true rfl⟩ ea rfl ev5 (zd tX3_init 12 rfl) ?_
  have C : zC E (106) _ _ _ := C.to (by omega) (by have := hNw.2.2 trivial; omega)
  obtain ⟨v6, ev6, h⟩ := zb_some h
  have hv6 : zV0 v6 := by rw [ev6]; exact hv5.st (zRn (by omega))
  refine pg_3_2 C hnm (zGn ho (show zK 102 = (3, 5) from rfl) (by omega)) zic_3 (zm zwd_318) ev6 (zd tX3_init 13 rfl) ?_
  refine z_aload_n C (zd tX3_init 14 rfl) rfl ?_
  refine z_bipush C (by decide) (zd tX3_init 15 rfl) ?_
  obtain ⟨v7, ev7, h⟩ := zb_some h
  have hv7 : zV0 v7 := by rw [ev7]; exact hv6.fr
  have ea : zEo E + (106) = 106 := by rw [ho]
  refine z_newA C hz hRm (tg := 21) (fty := .boolean) (N := 16) (M := 16) (k' := 4) (n' := 64) (nn' := 107) (by simp) rfl (by decide) (by rw [ea]; exact (show zK 106 = (21, 16) from rfl)) (zm zwd_335) ⟨rfl, rfl⟩ ⟨Nat.le_of_ble_eq_true rfl, Nat.le_of_ble_eq_true rfl⟩ ea rfl ev7 (zd tX3_init 16 rfl) ?_
  have C : zC E (107) _ _ _ := C.to (by omega) (by have := hNw.2.2 trivial; omega)
  obtain ⟨v8, ev8, h⟩ := zb_some h
  have hv8 : zV0 v8 := by rw [ev8]; exact hv7.st (zRn (by omega))
  refine pg_3_3 C hnm (zGn ho (show zK 102 = (3, 5) from rfl) (by omega)) zic_3 (zm zwd_320) ev8 (zd tX3_init 17 rfl) ?_
  obtain ⟨rfl, rfl⟩ := zpi h
  exact ret.2.1 _ _ hv8 rfl rfl (zd tX3_init 18 rfl)
noncomputable def vsX4_init : List Cond := .code yX4_init cX4_init 1 none :: zbig
theorem pX4_init : yX4_init.cls = RX4 ∧ yX4_init.cls ≠ "java/lang/invoke/MethodHandle" ∧ yX4_init.cls ≠ "java/lang/invoke/VarHandle" ∧ (parseMethodDescriptor yX4_init.desc).map (fun d => d.parameters.length) = some 0 := by decide +kernel
abbrev rmX4_init : Room := { frames := 1, cells := 2, slots := 120, locals := 24 }
set_option maxRecDepth 100000 in
set_option maxHeartbeats 4000000 in
theorem qX4_init (l : Launch) (D : va_G) (ids : Nat → ClassId) (b : Nat) {a0 : Nat} (k0 : zK a0 = (4, 3)) {v v' : zHp} {r' : Int} (hv : zV0 v) (h : fX4_init v a0 = some (v', r')) : zCTN l yX4_init vsX4_init rmX4_init D ids b 0 True (a0 + 1) [zr a0] v (a0 + 3) (zV0 v') none v' 2 120 := by
  refine zMetN (own := RX4) (by decide +kernel) (show vsX4_init = _ from rfl) (Nat.le_of_ble_eq_true rfl) rfl ?_
  intro E hl hRm hD hids hb ho hz hN C hNw hname ret
  subst hl hD hids hb
  have hnm : (zEme E).name = "<init>" := hname
  have ka := zK_lt a0 (by rw [k0]; decide)
  have kb := (kg_4 ho k0).2.2
  unfold fX4_init at h
  refine z_aload_n C (zd tX4_init 0 rfl) rfl ?_
  refine z_objInit C hRm (zm zwd_241) (zm zwd_29) (zm zwd_30) ⟨Nat.le_of_ble_eq_true rfl, Nat.le_of_ble_eq_true rfl⟩ (zd tX4_init 1 rfl) ?_
  refine z_aload_n C (zd tX4_init 2 rfl) rfl ?_
  refine z_bipush C (by decide) (zd tX4_init 3 rfl) ?_
  obtain ⟨v1, ev1, h⟩ := zb_some h
  have hv1 : zV0 v1 := by rw [ev1]; exact hv.fr
  have ea : zEo E + (a0 + 1) = a0 + 1 := by rw [ho]; omega
  refine z_newA C hz hRm (tg := 20) (fty := .int) (N := 60) (M := 60) (k' := 1) (n' := 60) (nn' := a0 + 2) (by simp) rfl (by decide) (by rw [ea]; exact (kx_4_1 k0)) (zm zwd_59) ⟨rfl, rfl⟩ ⟨Nat.le_of_ble_eq_true rfl, Nat.le_of_ble_eq_true rfl⟩ ea rfl ev1 (zd tX4_init 4 rfl) ?_
  have C : zC E (a0 + 2) _ _ _ := C.to (by omega) (by have := hNw.2.2 trivial; omega)
  obtain ⟨v2, ev2, h⟩ := zb_some h
  have hv2 : zV0 v2 := by rw [ev2]; exact hv1.st (zRn (by omega))
  refine pg_4_0 C hnm (zGn ho k0 (by omega)) zic_4 (zm zwd_242) ev2 (zd tX4_init 5 rfl) ?_
  refine z_aload_n C (zd tX4_init 6 rfl) rfl ?_
  refine z_bipush C (by decide) (zd tX4_init 7 rfl) ?_
  obtain ⟨v3, ev3, h⟩ := zb_some h
  have hv3 : zV0 v3 := by rw [ev3]; exact hv2.fr
  have ea : zEo E + (a0 + 2) = a0 + 2 := by rw [ho]; omega
  refine z_newA C hz hRm (tg := 20) (fty := .int) (N := 60) (M := 60) (k' := 2) (n' := 120) (nn' := a0 + 3) (by simp) rfl (by decide) (by rw [ea]; exact (kx_4_2 k0)) (zm zwd_59) ⟨rfl, rfl⟩ ⟨Nat.le_of_ble_eq_true rfl, Nat.le_of_ble_eq_true rfl⟩ ea rfl ev3 (zd tX4_init 8 rfl) ?_
  have C : zC E (a0 + 3) _ _ _ := C.to (by omega) (by have := hNw.2.2 trivial; omega)
  obtain ⟨v4, ev4, h⟩ := zb_some h
  have hv4 : zV0 v4 := by rw [ev4]; exact hv3.st (zRn (by omega))
  refine pg_4_1 C hnm (zGn ho k0 (by omega)) zic_4 (zm zwd_244) ev4 (zd tX4_init 9 rfl) ?_
  obtain ⟨rfl, rfl⟩ := zpi h
  exact ret.2.1 _ _ hv4 rfl rfl (zd tX4_init 10 rfl)
noncomputable def vsX10_init : List Cond := .code yX10_init cX10_init 1 none :: zbig
theorem pX10_init : yX10_init.cls = RX10 ∧ yX10_init.cls ≠ "java/lang/invoke/MethodHandle" ∧ yX10_init.cls ≠ "java/lang/invoke/VarHandle" ∧ (parseMethodDescriptor yX10_init.desc).map (fun d => d.parameters.length) = some 0 := by decide +kernel
abbrev rmX10_init : Room := { frames := 1, cells := 3, slots := 2028, locals := 24 }
set_option maxRecDepth 100000 in
set_option maxHeartbeats 4000000 in
theorem qX10_init (l : Launch) (D : va_G) (ids : Nat → ClassId) (b : Nat) {v v' : zHp} {r' : Int} (hv : zV0 v) (h : fX10_init v = some (v', r')) : zCTN l yX10_init vsX10_init rmX10_init D ids b 0 True (127) [zr 126] v (130) (zV0 v') none v' 3 2028 := by
  refine zMetN (own := RX10) (by decide +kernel) (show vsX10_init = _ from rfl) (Nat.le_of_ble_eq_true rfl) rfl ?_
  intro E hl hRm hD hids hb ho hz hN C hNw hname ret
  subst hl hD hids hb
  have hnm : (zEme E).name = "<init>" := hname
  unfold fX10_init at h
  refine z_aload_n C (zd tX10_init 0 rfl) rfl ?_
  refine z_objInit C hRm (zm zwd_347) (zm zwd_29) (zm zwd_30) ⟨Nat.le_of_ble_eq_true rfl, Nat.le_of_ble_eq_true rfl⟩ (zd tX10_init 1 rfl) ?_
  refine z_aload_n C (zd tX10_init 2 rfl) rfl ?_
  refine z_sipush C (by decide) (zd tX10_init 3 rfl) ?_
  obtain ⟨v1, ev1, h⟩ := zb_some h
  have hv1 : zV0 v1 := by rw [ev1]; exact hv.fr
  have ea : zEo E + (127) = 127 := by rw [ho]
  refine z_newA C hz hRm (tg := 20) (fty := .int) (N := 676) (M := 676) (k' := 1) (n' := 676) (nn' := 128) (by simp) rfl (by decide) (by rw [ea]; exact (show zK 127 = (20, 676) from rfl)) (zm zwd_59) ⟨rfl, rfl⟩ ⟨Nat.le_of_ble_eq_true rfl, Nat.le_of_ble_eq_true rfl⟩ ea rfl ev1 (zd tX10_init 4 rfl) ?_
  have C : zC E (128) _ _ _ := C.to (by omega) (by have := hNw.2.2 trivial; omega)
  obtain ⟨v2, ev2, h⟩ := zb_some h
  have hv2 : zV0 v2 := by rw [ev2]; exact hv1.st (zRn (by omega))
  refine pg_10_0 C hnm (zGn ho (show zK 126 = (10, 5) from rfl) (by omega)) zic_10 (zm zwd_348) ev2 (zd tX10_init 5 rfl) ?_
  refine z_aload_n C (zd tX10_init 6 rfl) rfl ?_
  refine z_sipush C (by decide) (zd tX10_init 7 rfl) ?_
  obtain ⟨v3, ev3, h⟩ := zb_some h
  have hv3 : zV0 v3 := by rw [ev3]; exact hv2.fr
  have ea : zEo E + (128) = 128 := by rw [ho]
  refine z_newA C hz hRm (tg := 20) (fty := .int) (N := 676) (M := 676) (k' := 2) (n' := 1352) (nn' := 129) (by simp) rfl (by decide) (by rw [ea]; exact (show zK 128 = (20, 676) from rfl)) (zm zwd_59) ⟨rfl, rfl⟩ ⟨Nat.le_of_ble_eq_true rfl, Nat.le_of_ble_eq_true rfl⟩ ea rfl ev3 (zd tX10_init 8 rfl) ?_
  have C : zC E (129) _ _ _ := C.to (by omega) (by have := hNw.2.2 trivial; omega)
  obtain ⟨v4, ev4, h⟩ := zb_some h
  have hv4 : zV0 v4 := by rw [ev4]; exact hv3.st (zRn (by omega))
  refine pg_10_1 C hnm (zGn ho (show zK 126 = (10, 5) from rfl) (by omega)) zic_10 (zm zwd_350) ev4 (zd tX10_init 9 rfl) ?_
  refine z_aload_n C (zd tX10_init 10 rfl) rfl ?_
  refine z_sipush C (by decide) (zd tX10_init 11 rfl) ?_
  obtain ⟨v5, ev5, h⟩ := zb_some h
  have hv5 : zV0 v5 := by rw [ev5]; exact hv4.fr
  have ea : zEo E + (129) = 129 := by rw [ho]
  refine z_newA C hz hRm (tg := 20) (fty := .int) (N := 676) (M := 676) (k' := 3) (n' := 2028) (nn' := 130) (by simp) rfl (by decide) (by rw [ea]; exact (show zK 129 = (20, 676) from rfl)) (zm zwd_59) ⟨rfl, rfl⟩ ⟨Nat.le_of_ble_eq_true rfl, Nat.le_of_ble_eq_true rfl⟩ ea rfl ev5 (zd tX10_init 12 rfl) ?_
  have C : zC E (130) _ _ _ := C.to (by omega) (by have := hNw.2.2 trivial; omega)
  obtain ⟨v6, ev6, h⟩ := zb_some h
  have hv6 : zV0 v6 := by rw [ev6]; exact hv5.st (zRn (by omega))
  refine pg_10_2 C hnm (zGn ho (show zK 126 = (10, 5) from rfl) (by omega)) zic_10 (zm zwd_353) ev6 (zd tX10_init 13 rfl) ?_
  obtain ⟨rfl, rfl⟩ := zpi h
  exact ret.2.1 _ _ hv6 rfl rfl (zd tX10_init 14 rfl)
abbrev rmX2_setN : Room := { frames := 0, cells := 0, slots := 0, locals := 0 }
set_option maxRecDepth 100000 in
set_option maxHeartbeats 4000000 in
theorem qX2_setN (l : Launch) (D : va_G) (ids : Nat → ClassId) (b : Nat) {a0 : Nat} (k0 : zK a0 = (2, 5)) {v v' : zHp} {r' : Int} (hv : zV0 v) (h : fX2_setN v a0 = some (v', r')) : zCTN l yX2_set vsX2_set rmX2_setN D ids b 0 True (a0 + 11) [zr a0, zi (-1), zi (-1), zi (-1)] v (a0 + 11) (zV0 v') none v' 0 0 := by
  refine zMetN (own := RX2) (by decide +kernel) (show vsX2_set = _ from rfl) (Nat.le_of_ble_eq_true rfl) rfl ?_
  intro E hl hRm hD hids hb ho hz hN C hNw hname ret
  subst hl hD hids hb
  have ka := zK_lt a0 (by rw [k0]; decide)
  have kb := (kg_2 ho k0).2.2
  unfold fX2_setN at h
  refine z_aload_n C (zd tX2_set 0 rfl) rfl ?_
  refine z_iload_n C (zd tX2_set 1 rfl) rfl ?_
  obtain ⟨v1, ev1, h⟩ := zb_some h
  have hv1 : zV0 v1 := by rw [ev1]; exact hv.st (zR_c (-1) rfl)
  refine pf_2_0 C (zGn ho k0 (by omega)) zic_2 (zm zwd_85) ev1 (zd tX2_set 2 rfl) ?_
  refine z_aload_n C (zd tX2_set 3 rfl) rfl ?_
  refine z_iload_n C (zd tX2_set 4 rfl) rfl ?_
  obtain ⟨v2, ev2, h⟩ := zb_some h
  have hv2 : zV0 v2 := by rw [ev2]; exact hv1.st (zR_c (-1) rfl)
  refine pf_2_1 C (zGn ho k0 (by omega)) zic_2 (zm zwd_87) ev2 (zd tX2_set 5 rfl) ?_
  refine z_aload_n C (zd tX2_set 6 rfl) rfl ?_
  refine z_iload_n C (zd tX2_set 7 rfl) rfl ?_
  obtain ⟨v3, ev3, h⟩ := zb_some h
  have hv3 : zV0 v3 := by rw [ev3]; exact hv2.st (zR_c (-1) rfl)
  refine pf_2_2 C (zGn ho k0 (by omega)) zic_2 (zm zwd_89) ev3 (zd tX2_set 8 rfl) ?_
  refine z_aload_n C (zd tX2_set 9 rfl) rfl ?_
  refine z_iload_n C (zd tX2_set 10 rfl) rfl ?_
  refine z_sipush C (by decide) (zd tX2_set 11 rfl) ?_
  refine z_imul C (zd tX2_set 12 rfl) ?_
  refine z_n0 (y := (-1440)) (congrArg zI (by decide)) ?_
  refine z_iload_n C (zd tX2_set 13 rfl) rfl ?_
  refine z_bipush C (by decide) (zd tX2_set 14 rfl) ?_
  refine z_imul C (zd tX2_set 15 rfl) ?_
  refine z_n0 (y := (-60)) (congrArg zI (by decide)) ?_
  refine z_iadd C (zd tX2_set 16 rfl) ?_
  refine z_n0 (y := (-1500)) (congrArg zI (by decide)) ?_
  obtain ⟨v4, ev4, h⟩ := zb_some h
  have hv4 : zV0 v4 := by rw [ev4]; exact hv3.st (zR_c (-1500) rfl)
  refine pf_2_3 C (zGn ho k0 (by omega)) zic_2 (zm zwd_91) ev4 (zd tX2_set 17 rfl) ?_
  refine z_aload_n C (zd tX2_set 18 rfl) rfl ?_
  refine z_iload_n C (zd tX2_set 19 rfl) rfl ?_
  refine z_iconst C (zd tX2_set 20 rfl) ?_
  refine z_icmp_ne (tgt := 40) (X := some ()) (Y := none) (res := ()) C (zR_c (-1) rfl) (zR_c 1 rfl) (zd tX2_set 21 rfl) (by decide) (by decide) (fun _ => ?_) (fun h => by cases h)
  refine z_iload_n C (zd tX2_set 24 rfl) rfl ?_
  refine z_if_ne (tgt := 49) (X := some ()) (Y := none) (res := ()) C (zR_c (-1) rfl) (zd tX2_set 25 rfl) (by decide) (by decide) (fun _ => ?_) (fun h => by cases h)
  refine z_iconst C (zd tX2_set 28 rfl) ?_
  obtain ⟨v5, ev5, h⟩ := zb_some h
  have hv5 : zV0 v5 := by rw [ev5]; exact hv4.st (zR_c 0 rfl)
  refine pf_2_4 C (zGn ho k0 (by omega)) zic_2 (zm zwd_92) ev5 (zd tX2_set 29 rfl) ?_
  obtain ⟨rfl, rfl⟩ := zpi h
  exact ret.2.1 _ _ hv5 rfl rfl (zd tX2_set 30 rfl)
abbrev rmX7_clearN : Room := { frames := 1, cells := 0, slots := 0, locals := 23 }
set_option maxRecDepth 100000 in
set_option maxHeartbeats 4000000 in
theorem qX7_clearN (l : Launch) (D : va_G) (ids : Nat → ClassId) (b : Nat) {a0 : Nat} (k0 : zK a0 = (7, 10)) {v v' : zHp} {r' : Int} (hv : zV0 v) (h : fX7_clearN v a0 = some (v', r')) : zCTN l yX7_clear vsX7_clear rmX7_clearN D ids b 0 True (a0 + 12) [zr a0] v (a0 + 12) (zV0 v') none v' 0 0 := by
  refine zMetN (own := RX7) (by decide +kernel) (show vsX7_clear = _ from rfl) (Nat.le_of_ble_eq_true rfl) rfl ?_
  intro E hl hRm hD hids hb ho hz hN C hNw hname ret
  subst hl hD hids hb
  have ka := zK_lt a0 (by rw [k0]; decide)
  have kb := (kg_7 ho k0).2.2
  unfold fX7_clearN at h
  refine z_aload_n C (zd tX7_clear 0 rfl) rfl ?_
  obtain ⟨q1, h⟩ := zck_some h
  refine gl_7_0 C (zGn ho k0 (by omega)) zic_7 (zm zwd_148) q1 (zd tX7_clear 1 rfl) ?_
  refine z_iconst C (zd tX7_clear 2 rfl) ?_
  refine z_iconst C (zd tX7_clear 3 rfl) ?_
  refine z_iconst C (zd tX7_clear 4 rfl) ?_
  obtain ⟨v2, r3, cv2, h⟩ := zcl_some h
  refine zc_VN C hNw.1 ho hz hRm (nn := a0 + 12) (nn1 := a0 + 12) (mc := 0) (ms := 0) (st := []) (qX2_setN _ _ _ _ (kx_7_1 k0) hv cv2) (zGn ho (kx_7_1 k0) (by omega)) (by decide) rfl (zgV zwd_144 zwd_145 zwd_146 zwd_5 zwd_147) rfl pX2_set rfl ⟨⟨rfl, rfl⟩, ⟨Nat.le_of_ble_eq_true rfl, Nat.le_of_ble_eq_true rfl⟩, ⟨Nat.le_of_ble_eq_true rfl, Nat.le_of_ble_eq_true rfl⟩⟩ rfl (Nat.le_of_ble_eq_true rfl) (zd tX7_clear 5 rfl) (fun p4 => ?_)
  refine z_aload_n C (zd tX7_clear 6 rfl) rfl ?_
  refine z_iconst C (zd tX7_clear 7 rfl) ?_
  obtain ⟨v5, ev5, h⟩ := zb_some h
  have hv5 : zV0 v5 := by rw [ev5]; exact p4.st (zR_c 0 rfl)
  refine pf_7_2 C (zGn ho k0 (by omega)) zic_7 (zm zwd_157) ev5 (zd tX7_clear 8 rfl) ?_
  refine z_aload_n C (zd tX7_clear 9 rfl) rfl ?_
  refine z_iconst C (zd tX7_clear 10 rfl) ?_
  obtain ⟨v6, ev6, h⟩ := zb_some h
  have hv6 : zV0 v6 := by rw [ev6]; exact hv5.st (zR_c 0 rfl)
  refine pf_7_4 C (zGn ho k0 (by omega)) zic_7 (zm zwd_163) ev6 (zd tX7_clear 11 rfl) ?_
  refine z_aload_n C (zd tX7_clear 12 rfl) rfl ?_
  refine z_bipush C (by decide) (zd tX7_clear 13 rfl) ?_
  obtain ⟨v7, ev7, h⟩ := zb_some h
  have hv7 : zV0 v7 := by rw [ev7]; exact hv6.st (zR_c 7 rfl)
  refine pf_7_5 C (zGn ho k0 (by omega)) zic_7 (zm zwd_166) ev7 (zd tX7_clear 14 rfl) ?_
  refine z_aload_n C (zd tX7_clear 15 rfl) rfl ?_
  refine z_iconst C (zd tX7_clear 16 rfl) ?_
  obtain ⟨v8, ev8, h⟩ := zb_some h
  have hv8 : zV0 v8 := by rw [ev8]; exact hv7.st (zR_c 0 rfl)
  refine pf_7_6 C (zGn ho k0 (by omega)) zic_7 (zm zwd_169) ev8 (zd tX7_clear 17 rfl) ?_
  refine z_aload_n C (zd tX7_clear 18 rfl) rfl ?_
  refine z_iconst C (zd tX7_clear 19 rfl) ?_
  obtain ⟨v9, ev9, h⟩ := zb_some h
  have hv9 : zV0 v9 := by rw [ev9]; exact hv8.st (zR_c 0 rfl)
  refine pf_7_7 C (zGn ho k0 (by omega)) zic_7 (zm zwd_173) ev9 (zd tX7_clear 20 rfl) ?_
  refine z_aload_n C (zd tX7_clear 21 rfl) rfl ?_
  refine z_bipush C (by decide) (zd tX7_clear 22 rfl) ?_
  obtain ⟨v10, ev10, h⟩ := zb_some h
  have hv10 : zV0 v10 := by rw [ev10]; exact hv9.st (zR_c 16 rfl)
  refine pf_7_8 C (zGn ho k0 (by omega)) zic_7 (zm zwd_177) ev10 (zd tX7_clear 23 rfl) ?_
  refine z_aload_n C (zd tX7_clear 24 rfl) rfl ?_
  refine z_bipush C (by decide) (zd tX7_clear 25 rfl) ?_
  obtain ⟨v11, ev11, h⟩ := zb_some h
  have hv11 : zV0 v11 := by rw [ev11]; exact hv10.st (zR_c 100 rfl)
  refine pf_7_9 C (zGn ho k0 (by omega)) zic_7 (zm zwd_181) ev11 (zd tX7_clear 26 rfl) ?_
  obtain ⟨rfl, rfl⟩ := zpi h
  exact ret.2.1 _ _ hv11 rfl rfl (zd tX7_clear 27 rfl)
noncomputable def vsX7_init : List Cond := .code yX7_init cX7_init 2 none :: zbig
theorem pX7_init : yX7_init.cls = RX7 ∧ yX7_init.cls ≠ "java/lang/invoke/MethodHandle" ∧ yX7_init.cls ≠ "java/lang/invoke/VarHandle" ∧ (parseMethodDescriptor yX7_init.desc).map (fun d => d.parameters.length) = some 0 := by decide +kernel
abbrev rmX7_init : Room := { frames := 2, cells := 11, slots := 57, locals := 44 }
set_option maxRecDepth 100000 in
set_option maxHeartbeats 4000000 in
theorem qX7_init (l : Launch) (D : va_G) (ids : Nat → ClassId) (b : Nat) {a0 : Nat} (k0 : zK a0 = (7, 10)) {v v' : zHp} {r' : Int} (hv : zV0 v) (h : fX7_init v a0 = some (v', r')) : zCTN l yX7_init vsX7_init rmX7_init D ids b 0 True (a0 + 1) [zr a0] v (a0 + 12) (zV0 v') none v' 11 57 := by
  refine zMetN (own := RX7) (by decide +kernel) (show vsX7_init = _ from rfl) (Nat.le_of_ble_eq_true rfl) rfl ?_
  intro E hl hRm hD hids hb ho hz hN C hNw hname ret
  subst hl hD hids hb
  have hnm : (zEme E).name = "<init>" := hname
  have ka := zK_lt a0 (by rw [k0]; decide)
  have kb := (kg_7 ho k0).2.2
  unfold fX7_init at h
  refine z_aload_n C (zd tX7_init 0 rfl) rfl ?_
  refine z_objInit C hRm (zm zwd_78) (zm zwd_29) (zm zwd_30) ⟨Nat.le_of_ble_eq_true rfl, Nat.le_of_ble_eq_true rfl⟩ (zd tX7_init 1 rfl) ?_
  refine z_aload_n C (zd tX7_init 2 rfl) rfl ?_
  obtain ⟨v1, ev1, h⟩ := zb_some h
  have hv1 : zV0 v1 := by rw [ev1]; exact hv.fr
  have ea : zEo E + (a0 + 1) = a0 + 1 := by rw [ho]; omega
  refine z_newO C hz hRm (k' := 1) (n' := 5) (nn' := a0 + 2) tyX2 tyX2_ok df_2 (by rw [ea]; exact (kx_7_1 k0)) (by decide) rfl zic_2 (zm zwd_79) (zm zwd_80) (zm zwd_5) ⟨rfl, rfl⟩ ⟨Nat.le_of_ble_eq_true rfl, Nat.le_of_ble_eq_true rfl⟩ ea rfl ev1 (zd tX7_init 3 rfl) ?_
  have C : zC E (a0 + 2) _ _ _ := C.to (by omega) (by have := hNw.2.2 trivial; omega)
  refine z_dup C (zd tX7_init 4 rfl) ?_
  obtain ⟨v2, r3, cv2, h⟩ := zcl_some h
  refine zc_I C hNw.1 ho hz hRm (nn := a0 + 2) (nn1 := a0 + 2) (mc := 0) (ms := 0) (st := [zr (a0 + 1), zr (a0)]) (qX2_init _ _ _ _ (kx_7_1 k0) hv1 cv2) (zgI zwd_83) rfl (zm zwd_5) (by decide +kernel) (zm zwd_82) rfl pX2_init rfl ⟨⟨rfl, rfl⟩, ⟨Nat.le_of_ble_eq_true rfl, Nat.le_of_ble_eq_true rfl⟩, ⟨Nat.le_of_ble_eq_true rfl, Nat.le_of_ble_eq_true rfl⟩⟩ rfl (Nat.le_of_ble_eq_true rfl) (zd tX7_init 5 rfl) (fun p4 => ?_)
  obtain ⟨v5, ev5, h⟩ := zb_some h
  have hv5 : zV0 v5 := by rw [ev5]; exact p4.st (zRn (by omega))
  refine pg_7_0 C hnm (zGn ho k0 (by omega)) zic_7 (zm zwd_148) ev5 (zd tX7_init 6 rfl) ?_
  refine z_aload_n C (zd tX7_init 7 rfl) rfl ?_
  refine z_bipush C (by decide) (zd tX7_init 8 rfl) ?_
  obtain ⟨v6, ev6, h⟩ := zb_some h
  have hv6 : zV0 v6 := by rw [ev6]; exact hv5.fr
  have ea : zEo E + (a0 + 2) = a0 + 2 := by rw [ho]; omega
  refine z_newR C hz hRm (tg := 24) (ci := 5) (N := 8) (M := 8) (k' := 2) (n' := 13) (nn' := a0 + 3) (by decide) (by decide) rfl hNw.1.2.2.1 rfl (by decide) (by rw [ea]; exact (kx_7_2 k0)) (zm zwd_104) ⟨rfl, rfl⟩ ⟨Nat.le_of_ble_eq_true rfl, Nat.le_of_ble_eq_true rfl⟩ ea rfl ev6 (zd tX7_init 9 rfl) ?_
  have C : zC E (a0 + 3) _ _ _ := C.to (by omega) (by have := hNw.2.2 trivial; omega)
  obtain ⟨v7, ev7, h⟩ := zb_some h
  have hv7 : zV0 v7 := by rw [ev7]; exact hv6.st (zRn (by omega))
  refine pg_7_1 C hnm (zGn ho k0 (by omega)) zic_7 (zm zwd_153) ev7 (zd tX7_init 10 rfl) ?_
  refine z_aload_n C (zd tX7_init 11 rfl) rfl ?_
  refine z_iconst C (zd tX7_init 12 rfl) ?_
  obtain ⟨v8, ev8, h⟩ := zb_some h
  have hv8 : zV0 v8 := by rw [ev8]; exact hv7.fr
  have ea : zEo E + (a0 + 3) = a0 + 3 := by rw [ho]; omega
  refine z_newA C hz hRm (tg := 20) (fty := .int) (N := 4) (M := 4) (k' := 3) (n' := 17) (nn' := a0 + 4) (by simp) rfl (by decide) (by rw [ea]; exact (kx_7_3 k0)) (zm zwd_59) ⟨rfl, rfl⟩ ⟨Nat.le_of_ble_eq_true rfl, Nat.le_of_ble_eq_true rfl⟩ ea rfl ev8 (zd tX7_init 13 rfl) ?_
  have C : zC E (a0 + 4) _ _ _ := C.to (by omega) (by have := hNw.2.2 trivial; omega)
  obtain ⟨v9, ev9, h⟩ := zb_some h
  have hv9 : zV0 v9 := by rw [ev9]; exact hv8.st (zRn (by omega))
  refine pg_7_3 C hnm (zGn ho k0 (by omega)) zic_7 (zm zwd_161) ev9 (zd tX7_init 14 rfl) ?_
  refine z_iconst C (zd tX7_init 15 rfl) ?_
  refine z_istore_n C (zd tX7_init 16 rfl) (by rw [hN]; decide) ?_
  refine z_iload_n C (zd tX7_init 17 rfl) rfl ?_
  refine z_bipush C (by decide) (zd tX7_init 18 rfl) ?_
  refine z_icmp_ge (tgt := 58) (X := none) (Y := some ()) (res := ()) C (zR_c 0 rfl) (zR_c 8 rfl) (zd tX7_init 19 rfl) (by decide) (by decide) (fun h => by cases h) (fun _ => ?_)
  refine z_aload_n C (zd tX7_init 20 rfl) rfl ?_
  obtain ⟨q10, h⟩ := zck_some h
  refine gl_7_1 C (zGn ho k0 (by omega)) zic_7 (zm zwd_153) q10 (zd tX7_init 21 rfl) ?_
  refine z_iload_n C (zd tX7_init 22 rfl) rfl ?_
  obtain ⟨v11, ev11, h⟩ := zb_some h
  have hv11 : zV0 v11 := by rw [ev11]; exact hv9.fr
  have ea : zEo E + (a0 + 4) = a0 + 4 := by rw [ho]; omega
  refine z_newO C hz hRm (k' := 4) (n' := 22) (nn' := a0 + 5) tyX5 tyX5_ok df_5 (by rw [ea]; exact (kx_7_4 k0)) (by decide) rfl zic_5 (zm zwd_104) (zm zwd_106) (zm zwd_6) ⟨rfl, rfl⟩ ⟨Nat.le_of_ble_eq_true rfl, Nat.le_of_ble_eq_true rfl⟩ ea rfl ev11 (zd tX7_init 23 rfl) ?_
  have C : zC E (a0 + 5) _ _ _ := C.to (by omega) (by have := hNw.2.2 trivial; omega)
  refine z_dup C (zd tX7_init 24 rfl) ?_
  obtain ⟨v12, r13, cv12, h⟩ := zcl_some h
  refine zc_I C hNw.1 ho hz hRm (nn := a0 + 5) (nn1 := a0 + 5) (mc := 0) (ms := 0) (st := [zr (a0 + 4), zi 0, zr (a0 + 2)]) (qX5_init _ _ _ _ (kx_7_4 k0) hv11 cv12) (zgI zwd_109) rfl (zm zwd_6) (by decide +kernel) (zm zwd_108) rfl pX5_init rfl ⟨⟨rfl, rfl⟩, ⟨Nat.le_of_ble_eq_true rfl, Nat.le_of_ble_eq_true rfl⟩, ⟨Nat.le_of_ble_eq_true rfl, Nat.le_of_ble_eq_true rfl⟩⟩ rfl (Nat.le_of_ble_eq_true rfl) (zd tX7_init 25 rfl) (fun p14 => ?_)
  obtain ⟨v15, ev15, h⟩ := zb_some h
  have hv15 : zV0 v15 := by rw [ev15]; exact p14.st (zRn (by omega))
  refine z_aast C (zGn ho (kx_7_2 k0) (by omega)) (zGn ho (kx_7_4 k0) (by omega)) (by decide) (by decide) (by decide) rfl (M := 8) rfl (by decide) (by decide) ev15 (zd tX7_init 26 rfl) ?_
  refine z_iincE (t := 1) C (zd tX7_init 27 rfl) (by rw [hN]; decide) rfl (by decide) ?_
  refine z_goto (tgt := 33) C (zd tX7_init 28 rfl) (by decide) ?_
  refine z_iload_n C (zd tX7_init 17 rfl) rfl ?_
  refine z_bipush C (by decide) (zd tX7_init 18 rfl) ?_
  refine z_icmp_ge (tgt := 58) (X := none) (Y := some ()) (res := ()) C (zR_c 1 rfl) (zR_c 8 rfl) (zd tX7_init 19 rfl) (by decide) (by decide) (fun h => by cases h) (fun _ => ?_)
  refine z_aload_n C (zd tX7_init 20 rfl) rfl ?_
  obtain ⟨q16, h⟩ := zck_some h
  refine gl_7_1 C (zGn ho k0 (by omega)) zic_7 (zm zwd_153) q16 (zd tX7_init 21 rfl) ?_
  refine z_iload_n C (zd tX7_init 22 rfl) rfl ?_
  obtain ⟨v17, ev17, h⟩ := zb_some h
  have hv17 : zV0 v17 := by rw [ev17]; exact hv15.fr
  have ea : zEo E + (a0 + 5) = a0 + 5 := by rw [ho]; omega
  refine z_newO C hz hRm (k' := 5) (n' := 27) (nn' := a0 + 6) tyX5 tyX5_ok df_5 (by rw [ea]; exact (kx_7_5 k0)) (by decide) rfl zic_5 (zm zwd_104) (zm zwd_106) (zm zwd_6) ⟨rfl, rfl⟩ ⟨Nat.le_of_ble_eq_true rfl, Nat.le_of_ble_eq_true rfl⟩ ea rfl ev17 (zd tX7_init 23 rfl) ?_
  have C : zC E (a0 + 6) _ _ _ := C.to (by omega) (by have := hNw.2.2 trivial; omega)
  refine z_dup C (zd tX7_init 24 rfl) ?_
  obtain ⟨v18, r19, cv18, h⟩ := zcl_some h
  refine zc_I C hNw.1 ho hz hRm (nn := a0 + 6) (nn1 := a0 + 6) (mc := 0) (ms := 0) (st := [zr (a0 + 5), zi 1, zr (a0 + 2)]) (qX5_init _ _ _ _ (kx_7_5 k0) hv17 cv18) (zgI zwd_109) rfl (zm zwd_6) (by decide +kernel) (zm zwd_108) rfl pX5_init rfl ⟨⟨rfl, rfl⟩, ⟨Nat.le_of_ble_eq_true rfl, Nat.le_of_ble_eq_true rfl⟩, ⟨Nat.le_of_ble_eq_true rfl, Nat.le_of_ble_eq_true rfl⟩⟩ rfl (Nat.le_of_ble_eq_true rfl) (zd tX7_init 25 rfl) (fun p20 => ?_)
  obtain ⟨v21, ev21, h⟩ := zb_some h
  have hv21 : zV0 v21 := by rw [ev21]; exact p20.st (zRn (by omega))
  refine z_aast C (zGn ho (kx_7_2 k0) (by omega)) (zGn ho (kx_7_5 k0) (by omega)) (by decide) (by decide) (by decide) rfl (M := 8) rfl (by decide) (by decide) ev21 (zd tX7_init 26 rfl) ?_
  refine z_iincE (t := 2) C (zd tX7_init 27 rfl) (by rw [hN]; decide) rfl (by decide) ?_
  refine z_goto (tgt := 33) C (zd tX7_init 28 rfl) (by decide) ?_
  refine z_iload_n C (zd tX7_init 17 rfl) rfl ?_
  refine z_bipush C (by decide) (zd tX7_init 18 rfl) ?_
  refine z_icmp_ge (tgt := 58) (X := none) (Y := some ()) (res := ()) C (zR_c 2 rfl) (zR_c 8 rfl) (zd tX7_init 19 rfl) (by decide) (by decide) (fun h => by cases h) (fun _ => ?_)
  refine z_aload_n C (zd tX7_init 20 rfl) rfl ?_
  obtain ⟨q22, h⟩ := zck_some h
  refine gl_7_1 C (zGn ho k0 (by omega)) zic_7 (zm zwd_153) q22 (zd tX7_init 21 rfl) ?_
  refine z_iload_n C (zd tX7_init 22 rfl) rfl ?_
  obtain ⟨v23, ev23, h⟩ := zb_some h
  have hv23 : zV0 v23 := by rw [ev23]; exact hv21.fr
  have ea : zEo E + (a0 + 6) = a0 + 6 := by rw [ho]; omega
  refine z_newO C hz hRm (k' := 6) (n' := 32) (nn' := a0 + 7) tyX5 tyX5_ok df_5 (by rw [ea]; exact (kx_7_6 k0)) (by decide) rfl zic_5 (zm zwd_104) (zm zwd_106) (zm zwd_6) ⟨rfl, rfl⟩ ⟨Nat.le_of_ble_eq_true rfl, Nat.le_of_ble_eq_true rfl⟩ ea rfl ev23 (zd tX7_init 23 rfl) ?_
  have C : zC E (a0 + 7) _ _ _ := C.to (by omega) (by have := hNw.2.2 trivial; omega)
  refine z_dup C (zd tX7_init 24 rfl) ?_
  obtain ⟨v24, r25, cv24, h⟩ := zcl_some h
  refine zc_I C hNw.1 ho hz hRm (nn := a0 + 7) (nn1 := a0 + 7) (mc := 0) (ms := 0) (st := [zr (a0 + 6), zi 2, zr (a0 + 2)]) (qX5_init _ _ _ _ (kx_7_6 k0) hv23 cv24) (zgI zwd_109) rfl (zm zwd_6) (by decide +kernel) (zm zwd_108) rfl pX5_init rfl ⟨⟨rfl, rfl⟩, ⟨Nat.le_of_ble_eq_true rfl, Nat.le_of_ble_eq_true rfl⟩, ⟨Nat.le_of_ble_eq_true rfl, Nat.le_of_ble_eq_true rfl⟩⟩ rfl (Nat.le_of_ble_eq_true rfl) (zd tX7_init 25 rfl) (fun p26 => ?_)
  obtain ⟨v27, ev27, h⟩ := zb_some h
  have hv27 : zV0 v27 := by rw [ev27]; exact p26.st (zRn (by omega))
  refine z_aast C (zGn ho (kx_7_2 k0) (by omega)) (zGn ho (kx_7_6 k0) (by omega)) (by decide) (by decide) (by decide) rfl (M := 8) rfl (by decide) (by decide) ev27 (zd tX7_init 26 rfl) ?_
  refine z_iincE (t := 3) C (zd tX7_init 27 rfl) (by rw [hN]; decide) rfl (by decide) ?_
  refine z_goto (tgt := 33) C (zd tX7_init 28 rfl) (by decide) ?_
  refine z_iload_n C (zd tX7_init 17 rfl) rfl ?_
  refine z_bipush C (by decide) (zd tX7_init 18 rfl) ?_
  refine z_icmp_ge (tgt := 58) (X := none) (Y := some ()) (res := ()) C (zR_c 3 rfl) (zR_c 8 rfl) (zd tX7_init 19 rfl) (by decide) (by decide) (fun h => by cases h) (fun _ => ?_)
  refine z_aload_n C (zd tX7_init 20 rfl) rfl ?_
  obtain ⟨q28, h⟩ := zck_some h
  refine gl_7_1 C (zGn ho k0 (by omega)) zic_7 (zm zwd_153) q28 (zd tX7_init 21 rfl) ?_
  refine z_iload_n C (zd tX7_init 22 rfl) rfl ?_
  obtain ⟨v29, ev29, h⟩ := zb_some h
  have hv29 : zV0 v29 := by rw [ev29]; exact hv27.fr
  have ea : zEo E + (a0 + 7) = a0 + 7 := by rw [ho]; omega
  refine z_newO C hz hRm (k' := 7) (n' := 37) (nn' := a0 + 8) tyX5 tyX5_ok df_5 (by rw [ea]; exact (kx_7_7 k0)) (by decide) rfl zic_5 (zm zwd_104) (zm zwd_106) (zm zwd_6) ⟨rfl, rfl⟩ ⟨Nat.le_of_ble_eq_true rfl, Nat.le_of_ble_eq_true rfl⟩ ea rfl ev29 (zd tX7_init 23 rfl) ?_
  have C : zC E (a0 + 8) _ _ _ := C.to (by omega) (by have := hNw.2.2 trivial; omega)
  refine z_dup C (zd tX7_init 24 rfl) ?_
  obtain ⟨v30, r31, cv30, h⟩ := zcl_some h
  refine zc_I C hNw.1 ho hz hRm (nn := a0 + 8) (nn1 := a0 + 8) (mc := 0) (ms := 0) (st := [zr (a0 + 7), zi 3, zr (a0 + 2)]) (qX5_init _ _ _ _ (kx_7_7 k0) hv29 cv30) (zgI zwd_109) rfl (zm zwd_6) (by decide +kernel) (zm zwd_108) rfl pX5_init rfl ⟨⟨rfl, rfl⟩, ⟨Nat.le_of_ble_eq_true rfl, Nat.le_of_ble_eq_true rfl⟩, ⟨Nat.le_of_ble_eq_true rfl, Nat.le_of_ble_eq_true rfl⟩⟩ rfl (Nat.le_of_ble_eq_true rfl) (zd tX7_init 25 rfl) (fun p32 => ?_)
  obtain ⟨v33, ev33, h⟩ := zb_some h
  have hv33 : zV0 v33 := by rw [ev33]; exact p32.st (zRn (by omega))
  refine z_aast C (zGn ho (kx_7_2 k0) (by omega)) (zGn ho (kx_7_7 k0) (by omega)) (by decide) (by decide) (by decide) rfl (M := 8) rfl (by decide) (by decide) ev33 (zd tX7_init 26 rfl) ?_
  refine z_iincE (t := 4) C (zd tX7_init 27 rfl) (by rw [hN]; decide) rfl (by decide) ?_
  refine z_goto (tgt := 33) C (zd tX7_init 28 rfl) (by decide) ?_
  refine z_iload_n C (zd tX7_init 17 rfl) rfl ?_
  refine z_bipush C (by decide) (zd tX7_init 18 rfl) ?_
  refine z_icmp_ge (tgt := 58) (X := none) (Y := some ()) (res := ()) C (zR_c 4 rfl) (zR_c 8 rfl) (zd tX7_init 19 rfl) (by decide) (by decide) (fun h => by cases h) (fun _ => ?_)
  refine z_aload_n C (zd tX7_init 20 rfl) rfl ?_
  obtain ⟨q34, h⟩ := zck_some h
  refine gl_7_1 C (zGn ho k0 (by omega)) zic_7 (zm zwd_153) q34 (zd tX7_init 21 rfl) ?_
  refine z_iload_n C (zd tX7_init 22 rfl) rfl ?_
  obtain ⟨v35, ev35, h⟩ := zb_some h
  have hv35 : zV0 v35 := by rw [ev35]; exact hv33.fr
  have ea : zEo E + (a0 + 8) = a0 + 8 := by rw [ho]; omega
  refine z_newO C hz hRm (k' := 8) (n' := 42) (nn' := a0 + 9) tyX5 tyX5_ok df_5 (by rw [ea]; exact (kx_7_8 k0)) (by decide) rfl zic_5 (zm zwd_104) (zm zwd_106) (zm zwd_6) ⟨rfl, rfl⟩ ⟨Nat.le_of_ble_eq_true rfl, Nat.le_of_ble_eq_true rfl⟩ ea rfl ev35 (zd tX7_init 23 rfl) ?_
  have C : zC E (a0 + 9) _ _ _ := C.to (by omega) (by have := hNw.2.2 trivial; omega)
  refine z_dup C (zd tX7_init 24 rfl) ?_
  obtain ⟨v36, r37, cv36, h⟩ := zcl_some h
  refine zc_I C hNw.1 ho hz hRm (nn := a0 + 9) (nn1 := a0 + 9) (mc := 0) (ms := 0) (st := [zr (a0 + 8), zi 4, zr (a0 + 2)]) (qX5_init _ _ _ _ (kx_7_8 k0) hv35 cv36) (zgI zwd_109) rfl (zm zwd_6) (by decide +kernel) (zm zwd_108) rfl pX5_init rfl ⟨⟨rfl, rfl⟩, ⟨Nat.le_of_ble_eq_true rfl, Nat.le_of_ble_eq_true rfl⟩, ⟨Nat.le_of_ble_eq_true rfl, Nat.le_of_ble_eq_true rfl⟩⟩ rfl (Nat.le_of_ble_eq_true rfl) (zd tX7_init 25 rfl) (fun p38 => ?_)
  obtain ⟨v39, ev39, h⟩ := zb_some h
  have hv39 : zV0 v39 := by rw [ev39]; exact p38.st (zRn (by omega))
  refine z_aast C (zGn ho (kx_7_2 k0) (by omega)) (zGn ho (kx_7_8 k0) (by omega)) (by decide) (by decide) (by decide) rfl (M := 8) rfl (by decide) (by decide) ev39 (zd tX7_init 26 rfl) ?_
  refine z_iincE (t := 5) C (zd tX7_init 27 rfl) (by rw [hN]; decide) rfl (by decide) ?_
  refine z_goto (tgt := 33) C (zd tX7_init 28 rfl) (by decide) ?_
  refine z_iload_n C (zd tX7_init 17 rfl) rfl ?_
  refine z_bipush C (by decide) (zd tX7_init 18 rfl) ?_
  refine z_icmp_ge (tgt := 58) (X := none) (Y := some ()) (res := ()) C (zR_c 5 rfl) (zR_c 8 rfl) (zd tX7_init 19 rfl) (by decide) (by decide) (fun h => by cases h) (fun _ => ?_)
  refine z_aload_n C (zd tX7_init 20 rfl) rfl ?_
  obtain ⟨q40, h⟩ := zck_some h
  refine gl_7_1 C (zGn ho k0 (by omega)) zic_7 (zm zwd_153) q40 (zd tX7_init 21 rfl) ?_
  refine z_iload_n C (zd tX7_init 22 rfl) rfl ?_
  obtain ⟨v41, ev41, h⟩ := zb_some h
  have hv41 : zV0 v41 := by rw [ev41]; exact hv39.fr
  have ea : zEo E + (a0 + 9) = a0 + 9 := by rw [ho]; omega
  refine z_newO C hz hRm (k' := 9) (n' := 47) (nn' := a0 + 10) tyX5 tyX5_ok df_5 (by rw [ea]; exact (kx_7_9 k0)) (by decide) rfl zic_5 (zm zwd_104) (zm zwd_106) (zm zwd_6) ⟨rfl, rfl⟩ ⟨Nat.le_of_ble_eq_true rfl, Nat.le_of_ble_eq_true rfl⟩ ea rfl ev41 (zd tX7_init 23 rfl) ?_
  have C : zC E (a0 + 10) _ _ _ := C.to (by omega) (by have := hNw.2.2 trivial; omega)
  refine z_dup C (zd tX7_init 24 rfl) ?_
  obtain ⟨v42, r43, cv42, h⟩ := zcl_some h
  refine zc_I C hNw.1 ho hz hRm (nn := a0 + 10) (nn1 := a0 + 10) (mc := 0) (ms := 0) (st := [zr (a0 + 9), zi 5, zr (a0 + 2)]) (qX5_init _ _ _ _ (kx_7_9 k0) hv41 cv42) (zgI zwd_109) rfl (zm zwd_6) (by decide +kernel) (zm zwd_108) rfl pX5_init rfl ⟨⟨rfl, rfl⟩, ⟨Nat.le_of_ble_eq_true rfl, Nat.le_of_ble_eq_true rfl⟩, ⟨Nat.le_of_ble_eq_true rfl, Nat.le_of_ble_eq_true rfl⟩⟩ rfl (Nat.le_of_ble_eq_true rfl) (zd tX7_init 25 rfl) (fun p44 => ?_)
  obtain ⟨v45, ev45, h⟩ := zb_some h
  have hv45 : zV0 v45 := by rw [ev45]; exact p44.st (zRn (by omega))
  refine z_aast C (zGn ho (kx_7_2 k0) (by omega)) (zGn ho (kx_7_9 k0) (by omega)) (by decide) (by decide) (by decide) rfl (M := 8) rfl (by decide) (by decide) ev45 (zd tX7_init 26 rfl) ?_
  refine z_iincE (t := 6) C (zd tX7_init 27 rfl) (by rw [hN]; decide) rfl (by decide) ?_
  refine z_goto (tgt := 33) C (zd tX7_init 28 rfl) (by decide) ?_
  refine z_iload_n C (zd tX7_init 17 rfl) rfl ?_
  refine z_bipush C (by decide) (zd tX7_init 18 rfl) ?_
  refine z_icmp_ge (tgt := 58) (X := none) (Y := some ()) (res := ()) C (zR_c 6 rfl) (zR_c 8 rfl) (zd tX7_init 19 rfl) (by decide) (by decide) (fun h => by cases h) (fun _ => ?_)
  refine z_aload_n C (zd tX7_init 20 rfl) rfl ?_
  obtain ⟨q46, h⟩ := zck_some h
  refine gl_7_1 C (zGn ho k0 (by omega)) zic_7 (zm zwd_153) q46 (zd tX7_init 21 rfl) ?_
  refine z_iload_n C (zd tX7_init 22 rfl) rfl ?_
  obtain ⟨v47, ev47, h⟩ := zb_some h
  have hv47 : zV0 v47 := by rw [ev47]; exact hv45.fr
  have ea : zEo E + (a0 + 10) = a0 + 10 := by rw [ho]; omega
  refine z_newO C hz hRm (k' := 10) (n' := 52) (nn' := a0 + 11) tyX5 tyX5_ok df_5 (by rw [ea]; exact (kx_7_10 k0)) (by decide) rfl zic_5 (zm zwd_104) (zm zwd_106) (zm zwd_6) ⟨rfl, rfl⟩ ⟨Nat.le_of_ble_eq_true rfl, Nat.le_of_ble_eq_true rfl⟩ ea rfl ev47 (zd tX7_init 23 rfl) ?_
  have C : zC E (a0 + 11) _ _ _ := C.to (by omega) (by have := hNw.2.2 trivial; omega)
  refine z_dup C (zd tX7_init 24 rfl) ?_
  obtain ⟨v48, r49, cv48, h⟩ := zcl_some h
  refine zc_I C hNw.1 ho hz hRm (nn := a0 + 11) (nn1 := a0 + 11) (mc := 0) (ms := 0) (st := [zr (a0 + 10), zi 6, zr (a0 + 2)]) (qX5_init _ _ _ _ (kx_7_10 k0) hv47 cv48) (zgI zwd_109) rfl (zm zwd_6) (by decide +kernel) (zm zwd_108) rfl pX5_init rfl ⟨⟨rfl, rfl⟩, ⟨Nat.le_of_ble_eq_true rfl, Nat.le_of_ble_eq_true rfl⟩, ⟨Nat.le_of_ble_eq_true rfl, Nat.le_of_ble_eq_true rfl⟩⟩ rfl (Nat.le_of_ble_eq_true rfl) (zd tX7_init 25 rfl) (fun p50 => ?_)
  obtain ⟨v51, ev51, h⟩ := zb_some h
  have hv51 : zV0 v51 := by rw [ev51]; exact p50.st (zRn (by omega))
  refine z_aast C (zGn ho (kx_7_2 k0) (by omega)) (zGn ho (kx_7_10 k0) (by omega)) (by decide) (by decide) (by decide) rfl (M := 8) rfl (by decide) (by decide) ev51 (zd tX7_init 26 rfl) ?_
  refine z_iincE (t := 7) C (zd tX7_init 27 rfl) (by rw [hN]; decide) rfl (by decide) ?_
  refine z_goto (tgt := 33) C (zd tX7_init 28 rfl) (by decide) ?_
  refine z_iload_n C (zd tX7_init 17 rfl) rfl ?_
  refine z_bipush C (by decide) (zd tX7_init 18 rfl) ?_
  refine z_icmp_ge (tgt := 58) (X := none) (Y := some ()) (res := ()) C (zR_c 7 rfl) (zR_c 8 rfl) (zd tX7_init 19 rfl) (by decide) (by decide) (fun h => by cases h) (fun _ => ?_)
  refine z_aload_n C (zd tX7_init 20 rfl) rfl ?_
  obtain ⟨q52, h⟩ := zck_some h
  refine gl_7_1 C (zGn ho k0 (by omega)) zic_7 (zm zwd_153) q52 (zd tX7_init 21 rfl) ?_
  refine z_iload_n C (zd tX7_init 22 rfl) rfl ?_
  obtain ⟨v53, ev53, h⟩ := zb_some h
  have hv53 : zV0 v53 := by rw [ev53]; exact hv51.fr
  have ea : zEo E + (a0 + 11) = a0 + 11 := by rw [ho]; omega
  refine z_newO C hz hRm (k' := 11) (n' := 57) (nn' := a0 + 12) tyX5 tyX5_ok df_5 (by rw [ea]; exact (kx_7_11 k0)) (by decide) rfl zic_5 (zm zwd_104) (zm zwd_106) (zm zwd_6) ⟨rfl, rfl⟩ ⟨Nat.le_of_ble_eq_true rfl, Nat.le_of_ble_eq_true rfl⟩ ea rfl ev53 (zd tX7_init 23 rfl) ?_
  have C : zC E (a0 + 12) _ _ _ := C.to (by omega) (by have := hNw.2.2 trivial; omega)
  refine z_dup C (zd tX7_init 24 rfl) ?_
  obtain ⟨v54, r55, cv54, h⟩ := zcl_some h
  refine zc_I C hNw.1 ho hz hRm (nn := a0 + 12) (nn1 := a0 + 12) (mc := 0) (ms := 0) (st := [zr (a0 + 11), zi 7, zr (a0 + 2)]) (qX5_init _ _ _ _ (kx_7_11 k0) hv53 cv54) (zgI zwd_109) rfl (zm zwd_6) (by decide +kernel) (zm zwd_108) rfl pX5_init rfl ⟨⟨rfl, rfl⟩, ⟨Nat.le_of_ble_eq_true rfl, Nat.le_of_ble_eq_true rfl⟩, ⟨Nat.le_of_ble_eq_true rfl, Nat.le_of_ble_eq_true rfl⟩⟩ rfl (Nat.le_of_ble_eq_true rfl) (zd tX7_init 25 rfl) (fun p56 => ?_)
  obtain ⟨v57, ev57, h⟩ := zb_some h
  have hv57 : zV0 v57 := by rw [ev57]; exact p56.st (zRn (by omega))
  refine z_aast C (zGn ho (kx_7_2 k0) (by omega)) (zGn ho (kx_7_11 k0) (by omega)) (by decide) (by decide) (by decide) rfl (M := 8) rfl (by decide) (by decide) ev57 (zd tX7_init 26 rfl) ?_
  refine z_iincE (t := 8) C (zd tX7_init 27 rfl) (by rw [hN]; decide) rfl (by decide) ?_
  refine z_goto (tgt := 33) C (zd tX7_init 28 rfl) (by decide) ?_
  refine z_iload_n C (zd tX7_init 17 rfl) rfl ?_
  refine z_bipush C (by decide) (zd tX7_init 18 rfl) ?_
  refine z_icmp_ge (tgt := 58) (X := some ()) (Y := none) (res := ()) C (zR_c 8 rfl) (zR_c 8 rfl) (zd tX7_init 19 rfl) (by decide) (by decide) (fun _ => ?_) (fun h => by cases h)
  refine z_aload_n C (zd tX7_init 29 rfl) rfl ?_
  obtain ⟨v58, r59, cv58, h⟩ := zcl_some h
  refine zc_VN C hNw.1 ho hz hRm (nn := a0 + 12) (nn1 := a0 + 12) (mc := 0) (ms := 0) (st := []) (qX7_clearN _ _ _ _ k0 hv57 cv58) (zGn ho k0 (by omega)) (by decide) rfl (zgV zwd_140 zwd_141 zwd_142 zwd_4 zwd_143) rfl pX7_clear rfl ⟨⟨rfl, rfl⟩, ⟨Nat.le_of_ble_eq_true rfl, Nat.le_of_ble_eq_true rfl⟩, ⟨Nat.le_of_ble_eq_true rfl, Nat.le_of_ble_eq_true rfl⟩⟩ rfl (Nat.le_of_ble_eq_true rfl) (zd tX7_init 30 rfl) (fun p60 => ?_)
  obtain ⟨rfl, rfl⟩ := zpi h
  exact ret.2.1 _ _ p60 rfl rfl (zd tX7_init 31 rfl)
noncomputable def vsX8_init : List Cond := .code yX8_init cX8_init 1 none :: zbig
theorem pX8_init : yX8_init.cls = RX8 ∧ yX8_init.cls ≠ "java/lang/invoke/MethodHandle" ∧ yX8_init.cls ≠ "java/lang/invoke/VarHandle" ∧ (parseMethodDescriptor yX8_init.desc).map (fun d => d.parameters.length) = some 0 := by decide +kernel
abbrev rmX8_init : Room := { frames := 2, cells := 14, slots := 8476, locals := 44 }
set_option maxRecDepth 100000 in
set_option maxHeartbeats 4000000 in
theorem qX8_init (l : Launch) (D : va_G) (ids : Nat → ClassId) (b : Nat) {a0 : Nat} (k0 : zK a0 = (8, 14)) {v v' : zHp} {r' : Int} (hv : zV0 v) (h : fX8_init v a0 = some (v', r')) : zCTN l yX8_init vsX8_init rmX8_init D ids b 0 True (a0 + 1) [zr a0] v (a0 + 15) (zV0 v') none v' 14 8476 := by
  refine zMetN (own := RX8) (by decide +kernel) (show vsX8_init = _ from rfl) (Nat.le_of_ble_eq_true rfl) rfl ?_
  intro E hl hRm hD hids hb ho hz hN C hNw hname ret
  subst hl hD hids hb
  have hnm : (zEme E).name = "<init>" := hname
  have ka := zK_lt a0 (by rw [k0]; decide)
  have kb := (kg_8 ho k0).2.2
  unfold fX8_init at h
  refine z_aload_n C (zd tX8_init 0 rfl) rfl ?_
  refine z_objInit C hRm (zm zwd_235) (zm zwd_29) (zm zwd_30) ⟨Nat.le_of_ble_eq_true rfl, Nat.le_of_ble_eq_true rfl⟩ (zd tX8_init 1 rfl) ?_
  refine z_aload_n C (zd tX8_init 2 rfl) rfl ?_
  refine z_iconst C (zd tX8_init 3 rfl) ?_
  obtain ⟨v1, ev1, h⟩ := zb_some h
  have hv1 : zV0 v1 := by rw [ev1]; exact hv.st (zR_c 1 rfl)
  refine pf_8_0 C (zGn ho k0 (by omega)) zic_8 (zm zwd_256) (by decide) ev1 (zd tX8_init 4 rfl) ?_
  refine z_aload_n C (zd tX8_init 5 rfl) rfl ?_
  refine z_bipush C (by decide) (zd tX8_init 6 rfl) ?_
  obtain ⟨v2, ev2, h⟩ := zb_some h
  have hv2 : zV0 v2 := by rw [ev2]; exact hv1.fr
  have ea : zEo E + (a0 + 1) = a0 + 1 := by rw [ho]; omega
  refine z_newA C hz hRm (tg := 20) (fty := .int) (N := 60) (M := 60) (k' := 1) (n' := 60) (nn' := a0 + 2) (by simp) rfl (by decide) (by rw [ea]; exact (kx_8_1 k0)) (zm zwd_59) ⟨rfl, rfl⟩ ⟨Nat.le_of_ble_eq_true rfl, Nat.le_of_ble_eq_true rfl⟩ ea rfl ev2 (zd tX8_init 7 rfl) ?_
  have C : zC E (a0 + 2) _ _ _ := C.to (by omega) (by have := hNw.2.2 trivial; omega)
  obtain ⟨v3, ev3, h⟩ := zb_some h
  have hv3 : zV0 v3 := by rw [ev3]; exact hv2.st (zRn (by omega))
  refine pg_8_1 C hnm (zGn ho k0 (by omega)) zic_8 (zm zwd_258) ev3 (zd tX8_init 8 rfl) ?_
  refine z_aload_n C (zd tX8_init 9 rfl) rfl ?_
  refine z_bipush C (by decide) (zd tX8_init 10 rfl) ?_
  obtain ⟨v4, ev4, h⟩ := zb_some h
  have hv4 : zV0 v4 := by rw [ev4]; exact hv3.fr
  have ea : zEo E + (a0 + 2) = a0 + 2 := by rw [ho]; omega
  refine z_newA C hz hRm (tg := 20) (fty := .int) (N := 30) (M := 30) (k' := 2) (n' := 90) (nn' := a0 + 3) (by simp) rfl (by decide) (by rw [ea]; exact (kx_8_2 k0)) (zm zwd_59) ⟨rfl, rfl⟩ ⟨Nat.le_of_ble_eq_true rfl, Nat.le_of_ble_eq_true rfl⟩ ea rfl ev4 (zd tX8_init 11 rfl) ?_
  have C : zC E (a0 + 3) _ _ _ := C.to (by omega) (by have := hNw.2.2 trivial; omega)
  obtain ⟨v5, ev5, h⟩ := zb_some h
  have hv5 : zV0 v5 := by rw [ev5]; exact hv4.st (zRn (by omega))
  refine pg_8_2 C hnm (zGn ho k0 (by omega)) zic_8 (zm zwd_260) ev5 (zd tX8_init 12 rfl) ?_
  refine z_aload_n C (zd tX8_init 13 rfl) rfl ?_
  refine z_bipush C (by decide) (zd tX8_init 14 rfl) ?_
  obtain ⟨v6, ev6, h⟩ := zb_some h
  have hv6 : zV0 v6 := by rw [ev6]; exact hv5.fr
  have ea : zEo E + (a0 + 3) = a0 + 3 := by rw [ho]; omega
  refine z_newA C hz hRm (tg := 20) (fty := .int) (N := 30) (M := 30) (k' := 3) (n' := 120) (nn' := a0 + 4) (by simp) rfl (by decide) (by rw [ea]; exact (kx_8_3 k0)) (zm zwd_59) ⟨rfl, rfl⟩ ⟨Nat.le_of_ble_eq_true rfl, Nat.le_of_ble_eq_true rfl⟩ ea rfl ev6 (zd tX8_init 15 rfl) ?_
  have C : zC E (a0 + 4) _ _ _ := C.to (by omega) (by have := hNw.2.2 trivial; omega)
  obtain ⟨v7, ev7, h⟩ := zb_some h
  have hv7 : zV0 v7 := by rw [ev7]; exact hv6.st (zRn (by omega))
  refine pg_8_3 C hnm (zGn ho k0 (by omega)) zic_8 (zm zwd_262) ev7 (zd tX8_init 16 rfl) ?_
  refine z_aload_n C (zd tX8_init 17 rfl) rfl ?_
  refine z_bipush C (by decide) (zd tX8_init 18 rfl) ?_
  obtain ⟨v8, ev8, h⟩ := zb_some h
  have hv8 : zV0 v8 := by rw [ev8]; exact hv7.fr
  have ea : zEo E + (a0 + 4) = a0 + 4 := by rw [ho]; omega
  refine z_newA C hz hRm (tg := 20) (fty := .int) (N := 30) (M := 30) (k' := 4) (n' := 150) (nn' := a0 + 5) (by simp) rfl (by decide) (by rw [ea]; exact (kx_8_4 k0)) (zm zwd_59) ⟨rfl, rfl⟩ ⟨Nat.le_of_ble_eq_true rfl, Nat.le_of_ble_eq_true rfl⟩ ea rfl ev8 (zd tX8_init 19 rfl) ?_
  have C : zC E (a0 + 5) _ _ _ := C.to (by omega) (by have := hNw.2.2 trivial; omega)
  obtain ⟨v9, ev9, h⟩ := zb_some h
  have hv9 : zV0 v9 := by rw [ev9]; exact hv8.st (zRn (by omega))
  refine pg_8_4 C hnm (zGn ho k0 (by omega)) zic_8 (zm zwd_264) ev9 (zd tX8_init 20 rfl) ?_
  refine z_aload_n C (zd tX8_init 21 rfl) rfl ?_
  refine z_sipush C (by decide) (zd tX8_init 22 rfl) ?_
  obtain ⟨v10, ev10, h⟩ := zb_some h
  have hv10 : zV0 v10 := by rw [ev10]; exact hv9.fr
  have ea : zEo E + (a0 + 5) = a0 + 5 := by rw [ho]; omega
  refine z_newA C hz hRm (tg := 20) (fty := .int) (N := 2692) (M := 2692) (k' := 5) (n' := 2842) (nn' := a0 + 6) (by simp) rfl (by decide) (by rw [ea]; exact (kx_8_5 k0)) (zm zwd_59) ⟨rfl, rfl⟩ ⟨Nat.le_of_ble_eq_true rfl, Nat.le_of_ble_eq_true rfl⟩ ea rfl ev10 (zd tX8_init 23 rfl) ?_
  have C : zC E (a0 + 6) _ _ _ := C.to (by omega) (by have := hNw.2.2 trivial; omega)
  obtain ⟨v11, ev11, h⟩ := zb_some h
  have hv11 : zV0 v11 := by rw [ev11]; exact hv10.st (zRn (by omega))
  refine pg_8_6 C hnm (zGn ho k0 (by omega)) zic_8 (zm zwd_268) ev11 (zd tX8_init 24 rfl) ?_
  refine z_aload_n C (zd tX8_init 25 rfl) rfl ?_
  refine z_sipush C (by decide) (zd tX8_init 26 rfl) ?_
  obtain ⟨v12, ev12, h⟩ := zb_some h
  have hv12 : zV0 v12 := by rw [ev12]; exact hv11.fr
  have ea : zEo E + (a0 + 6) = a0 + 6 := by rw [ho]; omega
  refine z_newA C hz hRm (tg := 20) (fty := .int) (N := 2692) (M := 2692) (k' := 6) (n' := 5534) (nn' := a0 + 7) (by simp) rfl (by decide) (by rw [ea]; exact (kx_8_6 k0)) (zm zwd_59) ⟨rfl, rfl⟩ ⟨Nat.le_of_ble_eq_true rfl, Nat.le_of_ble_eq_true rfl⟩ ea rfl ev12 (zd tX8_init 27 rfl) ?_
  have C : zC E (a0 + 7) _ _ _ := C.to (by omega) (by have := hNw.2.2 trivial; omega)
  obtain ⟨v13, ev13, h⟩ := zb_some h
  have hv13 : zV0 v13 := by rw [ev13]; exact hv12.st (zRn (by omega))
  refine pg_8_7 C hnm (zGn ho k0 (by omega)) zic_8 (zm zwd_270) ev13 (zd tX8_init 28 rfl) ?_
  refine z_aload_n C (zd tX8_init 29 rfl) rfl ?_
  refine z_sipush C (by decide) (zd tX8_init 30 rfl) ?_
  obtain ⟨v14, ev14, h⟩ := zb_some h
  have hv14 : zV0 v14 := by rw [ev14]; exact hv13.fr
  have ea : zEo E + (a0 + 7) = a0 + 7 := by rw [ho]; omega
  refine z_newA C hz hRm (tg := 20) (fty := .int) (N := 2692) (M := 2692) (k' := 7) (n' := 8226) (nn' := a0 + 8) (by simp) rfl (by decide) (by rw [ea]; exact (kx_8_7 k0)) (zm zwd_59) ⟨rfl, rfl⟩ ⟨Nat.le_of_ble_eq_true rfl, Nat.le_of_ble_eq_true rfl⟩ ea rfl ev14 (zd tX8_init 31 rfl) ?_
  have C : zC E (a0 + 8) _ _ _ := C.to (by omega) (by have := hNw.2.2 trivial; omega)
  obtain ⟨v15, ev15, h⟩ := zb_some h
  have hv15 : zV0 v15 := by rw [ev15]; exact hv14.st (zRn (by omega))
  refine pg_8_8 C hnm (zGn ho k0 (by omega)) zic_8 (zm zwd_272) ev15 (zd tX8_init 32 rfl) ?_
  refine z_aload_n C (zd tX8_init 33 rfl) rfl ?_
  obtain ⟨v16, ev16, h⟩ := zb_some h
  have hv16 : zV0 v16 := by rw [ev16]; exact hv15.fr
  have ea : zEo E + (a0 + 8) = a0 + 8 := by rw [ho]; omega
  refine z_newO C hz hRm (k' := 8) (n' := 8229) (nn' := a0 + 9) tyX4 tyX4_ok df_4 (by rw [ea]; exact (kx_8_8 k0)) (by decide) rfl zic_4 (zm zwd_236) (zm zwd_237) (zm zwd_9) ⟨rfl, rfl⟩ ⟨Nat.le_of_ble_eq_true rfl, Nat.le_of_ble_eq_true rfl⟩ ea rfl ev16 (zd tX8_init 34 rfl) ?_
  have C : zC E (a0 + 9) _ _ _ := C.to (by omega) (by have := hNw.2.2 trivial; omega)
  refine z_dup C (zd tX8_init 35 rfl) ?_
  obtain ⟨v17, r18, cv17, h⟩ := zcl_some h
  refine zc_I C hNw.1 ho hz hRm (nn := a0 + 9) (nn1 := a0 + 11) (mc := 2) (ms := 120) (st := [zr (a0 + 8), zr (a0)]) (qX4_init _ _ _ _ (kx_8_8 k0) hv16 cv17) (zgI zwd_240) rfl (zm zwd_9) (by decide +kernel) (zm zwd_239) rfl pX4_init rfl ⟨⟨rfl, rfl⟩, ⟨Nat.le_of_ble_eq_true rfl, Nat.le_of_ble_eq_true rfl⟩, ⟨Nat.le_of_ble_eq_true rfl, Nat.le_of_ble_eq_true rfl⟩⟩ rfl (Nat.le_of_ble_eq_true rfl) (zd tX8_init 36 rfl) (fun p19 => ?_)
  have C : zC E (a0 + 11) _ _ _ := C.to (by omega) (by have := hNw.2.2 trivial; omega)
  obtain ⟨v20, ev20, h⟩ := zb_some h
  have hv20 : zV0 v20 := by rw [ev20]; exact p19.st (zRn (by omega))
  refine pf_8_9 C (zGn ho k0 (by omega)) zic_8 (zm zwd_274) ev20 (zd tX8_init 37 rfl) ?_
  refine z_aload_n C (zd tX8_init 38 rfl) rfl ?_
  obtain ⟨v21, ev21, h⟩ := zb_some h
  have hv21 : zV0 v21 := by rw [ev21]; exact hv20.fr
  have ea : zEo E + (a0 + 11) = a0 + 11 := by rw [ho]; omega
  refine z_newO C hz hRm (k' := 11) (n' := 8352) (nn' := a0 + 12) tyX4 tyX4_ok df_4 (by rw [ea]; exact (kx_8_11 k0)) (by decide) rfl zic_4 (zm zwd_236) (zm zwd_237) (zm zwd_9) ⟨rfl, rfl⟩ ⟨Nat.le_of_ble_eq_true rfl, Nat.le_of_ble_eq_true rfl⟩ ea rfl ev21 (zd tX8_init 39 rfl) ?_
  have C : zC E (a0 + 12) _ _ _ := C.to (by omega) (by have := hNw.2.2 trivial; omega)
  refine z_dup C (zd tX8_init 40 rfl) ?_
  obtain ⟨v22, r23, cv22, h⟩ := zcl_some h
  refine zc_I C hNw.1 ho hz hRm (nn := a0 + 12) (nn1 := a0 + 14) (mc := 2) (ms := 120) (st := [zr (a0 + 11), zr (a0)]) (qX4_init _ _ _ _ (kx_8_11 k0) hv21 cv22) (zgI zwd_240) rfl (zm zwd_9) (by decide +kernel) (zm zwd_239) rfl pX4_init rfl ⟨⟨rfl, rfl⟩, ⟨Nat.le_of_ble_eq_true rfl, Nat.le_of_ble_eq_true rfl⟩, ⟨Nat.le_of_ble_eq_true rfl, Nat.le_of_ble_eq_true rfl⟩⟩ rfl (Nat.le_of_ble_eq_true rfl) (zd tX8_init 41 rfl) (fun p24 => ?_)
  have C : zC E (a0 + 14) _ _ _ := C.to (by omega) (by have := hNw.2.2 trivial; omega)
  obtain ⟨v25, ev25, h⟩ := zb_some h
  have hv25 : zV0 v25 := by rw [ev25]; exact p24.st (zRn (by omega))
  refine pf_8_10 C (zGn ho k0 (by omega)) zic_8 (zm zwd_275) ev25 (zd tX8_init 42 rfl) ?_
  refine z_aload_n C (zd tX8_init 43 rfl) rfl ?_
  refine z_iconst C (zd tX8_init 44 rfl) ?_
  obtain ⟨v26, ev26, h⟩ := zb_some h
  have hv26 : zV0 v26 := by rw [ev26]; exact hv25.fr
  have ea : zEo E + (a0 + 14) = a0 + 14 := by rw [ho]; omega
  refine z_newA C hz hRm (tg := 20) (fty := .int) (N := 4) (M := 4) (k' := 14) (n' := 8476) (nn' := a0 + 15) (by simp) rfl (by decide) (by rw [ea]; exact (kx_8_14 k0)) (zm zwd_59) ⟨rfl, rfl⟩ ⟨Nat.le_of_ble_eq_true rfl, Nat.le_of_ble_eq_true rfl⟩ ea rfl ev26 (zd tX8_init 45 rfl) ?_
  have C : zC E (a0 + 15) _ _ _ := C.to (by omega) (by have := hNw.2.2 trivial; omega)
  obtain ⟨v27, ev27, h⟩ := zb_some h
  have hv27 : zV0 v27 := by rw [ev27]; exact hv26.st (zRn (by omega))
  refine pg_8_11 C hnm (zGn ho k0 (by omega)) zic_8 (zm zwd_276) ev27 (zd tX8_init 46 rfl) ?_
  obtain ⟨rfl, rfl⟩ := zpi h
  exact ret.2.1 _ _ hv27 rfl rfl (zd tX8_init 47 rfl)
noncomputable def vsX0_init : List Cond := .code yX0_init cX0_init 1 none :: zbig
theorem pX0_init : yX0_init.cls = RX0 ∧ yX0_init.cls ≠ "java/lang/invoke/MethodHandle" ∧ yX0_init.cls ≠ "java/lang/invoke/VarHandle" ∧ (parseMethodDescriptor yX0_init.desc).map (fun d => d.parameters.length) = some 0 := by decide +kernel
abbrev rmX0_init : Room := { frames := 2, cells := 11, slots := 35157, locals := 44 }
set_option maxRecDepth 100000 in
set_option maxHeartbeats 4000000 in
theorem qX0_init (l : Launch) (D : va_G) (ids : Nat → ClassId) (b : Nat) {v v' : zHp} {r' : Int} (hv : zV0 v) (h : fX0_init v = some (v', r')) : zCTN l yX0_init vsX0_init rmX0_init D ids b 0 True (126) [zr 125] v (137) (zV0 v') none v' 11 35157 := by
  refine zMetN (own := RX0) (by decide +kernel) (show vsX0_init = _ from rfl) (Nat.le_of_ble_eq_true rfl) rfl ?_
  intro E hl hRm hD hids hb ho hz hN C hNw hname ret
  subst hl hD hids hb
  have hnm : (zEme E).name = "<init>" := hname
  unfold fX0_init at h
  refine z_aload_n C (zd tX0_init 0 rfl) rfl ?_
  refine z_objInit C hRm (zm zwd_341) (zm zwd_29) (zm zwd_30) ⟨Nat.le_of_ble_eq_true rfl, Nat.le_of_ble_eq_true rfl⟩ (zd tX0_init 1 rfl) ?_
  refine z_aload_n C (zd tX0_init 2 rfl) rfl ?_
  obtain ⟨v1, ev1, h⟩ := zb_some h
  have hv1 : zV0 v1 := by rw [ev1]; exact hv.fr
  have ea : zEo E + (126) = 126 := by rw [ho]
  refine z_newO C hz hRm (k' := 1) (n' := 5) (nn' := 127) tyX10 tyX10_ok df_10 (by rw [ea]; exact (show zK 126 = (10, 5) from rfl)) (by decide) rfl zic_10 (zm zwd_342) (zm zwd_343) (zm zwd_12) ⟨rfl, rfl⟩ ⟨Nat.le_of_ble_eq_true rfl, Nat.le_of_ble_eq_true rfl⟩ ea rfl ev1 (zd tX0_init 3 rfl) ?_
  have C : zC E (127) _ _ _ := C.to (by omega) (by have := hNw.2.2 trivial; omega)
  refine z_dup C (zd tX0_init 4 rfl) ?_
  obtain ⟨v2, r3, cv2, h⟩ := zcl_some h
  refine zc_I C hNw.1 ho hz hRm (nn := 127) (nn1 := 130) (mc := 3) (ms := 2028) (st := [zr (126), zr (125)]) (qX10_init _ _ _ _ hv1 cv2) (zgI zwd_346) rfl (zm zwd_12) (by decide +kernel) (zm zwd_345) rfl pX10_init rfl ⟨⟨rfl, rfl⟩, ⟨Nat.le_of_ble_eq_true rfl, Nat.le_of_ble_eq_true rfl⟩, ⟨Nat.le_of_ble_eq_true rfl, Nat.le_of_ble_eq_true rfl⟩⟩ rfl (Nat.le_of_ble_eq_true rfl) (zd tX0_init 5 rfl) (fun p4 => ?_)
  have C : zC E (130) _ _ _ := C.to (by omega) (by have := hNw.2.2 trivial; omega)
  obtain ⟨v5, ev5, h⟩ := zb_some h
  have hv5 : zV0 v5 := by rw [ev5]; exact p4.st (zRn (by omega))
  refine pg_0_0 C hnm (zGn ho (show zK 125 = (0, 9) from rfl) (by omega)) zic_0 (zm zwd_371) ev5 (zd tX0_init 6 rfl) ?_
  refine z_aload_n C (zd tX0_init 7 rfl) rfl ?_
  refine z_sipush C (by decide) (zd tX0_init 8 rfl) ?_
  obtain ⟨v6, ev6, h⟩ := zb_some h
  have hv6 : zV0 v6 := by rw [ev6]; exact hv5.fr
  have ea : zEo E + (130) = 130 := by rw [ho]
  refine z_newA C hz hRm (tg := 20) (fty := .int) (N := 676) (M := 676) (k' := 5) (n' := 2709) (nn' := 131) (by simp) rfl (by decide) (by rw [ea]; exact (show zK 130 = (20, 676) from rfl)) (zm zwd_59) ⟨rfl, rfl⟩ ⟨Nat.le_of_ble_eq_true rfl, Nat.le_of_ble_eq_true rfl⟩ ea rfl ev6 (zd tX0_init 9 rfl) ?_
  have C : zC E (131) _ _ _ := C.to (by omega) (by have := hNw.2.2 trivial; omega)
  obtain ⟨v7, ev7, h⟩ := zb_some h
  have hv7 : zV0 v7 := by rw [ev7]; exact hv6.st (zRn (by omega))
  refine pg_0_1 C hnm (zGn ho (show zK 125 = (0, 9) from rfl) (by omega)) zic_0 (zm zwd_373) ev7 (zd tX0_init 10 rfl) ?_
  refine z_aload_n C (zd tX0_init 11 rfl) rfl ?_
  refine z_sipush C (by decide) (zd tX0_init 12 rfl) ?_
  obtain ⟨v8, ev8, h⟩ := zb_some h
  have hv8 : zV0 v8 := by rw [ev8]; exact hv7.fr
  have ea : zEo E + (131) = 131 := by rw [ho]
  refine z_newA C hz hRm (tg := 20) (fty := .int) (N := 676) (M := 676) (k' := 6) (n' := 3385) (nn' := 132) (by simp) rfl (by decide) (by rw [ea]; exact (show zK 131 = (20, 676) from rfl)) (zm zwd_59) ⟨rfl, rfl⟩ ⟨Nat.le_of_ble_eq_true rfl, Nat.le_of_ble_eq_true rfl⟩ ea rfl ev8 (zd tX0_init 13 rfl) ?_
  have C : zC E (132) _ _ _ := C.to (by omega) (by have := hNw.2.2 trivial; omega)
  obtain ⟨v9, ev9, h⟩ := zb_some h
  have hv9 : zV0 v9 := by rw [ev9]; exact hv8.st (zRn (by omega))
  refine pg_0_2 C hnm (zGn ho (show zK 125 = (0, 9) from rfl) (by omega)) zic_0 (zm zwd_374) ev9 (zd tX0_init 14 rfl) ?_
  refine z_aload_n C (zd tX0_init 15 rfl) rfl ?_
  refine z_sipush C (by decide) (zd tX0_init 16 rfl) ?_
  obtain ⟨v10, ev10, h⟩ := zb_some h
  have hv10 : zV0 v10 := by rw [ev10]; exact hv9.fr
  have ea : zEo E + (132) = 132 := by rw [ho]
  refine z_newA C hz hRm (tg := 20) (fty := .int) (N := 676) (M := 676) (k' := 7) (n' := 4061) (nn' := 133) (by simp) rfl (by decide) (by rw [ea]; exact (show zK 132 = (20, 676) from rfl)) (zm zwd_59) ⟨rfl, rfl⟩ ⟨Nat.le_of_ble_eq_true rfl, Nat.le_of_ble_eq_true rfl⟩ ea rfl ev10 (zd tX0_init 17 rfl) ?_
  have C : zC E (133) _ _ _ := C.to (by omega) (by have := hNw.2.2 trivial; omega)
  obtain ⟨v11, ev11, h⟩ := zb_some h
  have hv11 : zV0 v11 := by rw [ev11]; exact hv10.st (zRn (by omega))
  refine pg_0_3 C hnm (zGn ho (show zK 125 = (0, 9) from rfl) (by omega)) zic_0 (zm zwd_375) ev11 (zd tX0_init 18 rfl) ?_
  refine z_aload_n C (zd tX0_init 19 rfl) rfl ?_
  refine z_sipush C (by decide) (zd tX0_init 20 rfl) ?_
  obtain ⟨v12, ev12, h⟩ := zb_some h
  have hv12 : zV0 v12 := by rw [ev12]; exact hv11.fr
  have ea : zEo E + (133) = 133 := by rw [ho]
  refine z_newA C hz hRm (tg := 20) (fty := .int) (N := 676) (M := 676) (k' := 8) (n' := 4737) (nn' := 134) (by simp) rfl (by decide) (by rw [ea]; exact (show zK 133 = (20, 676) from rfl)) (zm zwd_59) ⟨rfl, rfl⟩ ⟨Nat.le_of_ble_eq_true rfl, Nat.le_of_ble_eq_true rfl⟩ ea rfl ev12 (zd tX0_init 21 rfl) ?_
  have C : zC E (134) _ _ _ := C.to (by omega) (by have := hNw.2.2 trivial; omega)
  obtain ⟨v13, ev13, h⟩ := zb_some h
  have hv13 : zV0 v13 := by rw [ev13]; exact hv12.st (zRn (by omega))
  refine pg_0_4 C hnm (zGn ho (show zK 125 = (0, 9) from rfl) (by omega)) zic_0 (zm zwd_376) ev13 (zd tX0_init 22 rfl) ?_
  refine z_aload_n C (zd tX0_init 23 rfl) rfl ?_
  refine z_sipush C (by decide) (zd tX0_init 24 rfl) ?_
  obtain ⟨v14, ev14, h⟩ := zb_some h
  have hv14 : zV0 v14 := by rw [ev14]; exact hv13.fr
  have ea : zEo E + (134) = 134 := by rw [ho]
  refine z_newA C hz hRm (tg := 20) (fty := .int) (N := 676) (M := 676) (k' := 9) (n' := 5413) (nn' := 135) (by simp) rfl (by decide) (by rw [ea]; exact (show zK 134 = (20, 676) from rfl)) (zm zwd_59) ⟨rfl, rfl⟩ ⟨Nat.le_of_ble_eq_true rfl, Nat.le_of_ble_eq_true rfl⟩ ea rfl ev14 (zd tX0_init 25 rfl) ?_
  have C : zC E (135) _ _ _ := C.to (by omega) (by have := hNw.2.2 trivial; omega)
  obtain ⟨v15, ev15, h⟩ := zb_some h
  have hv15 : zV0 v15 := by rw [ev15]; exact hv14.st (zRn (by omega))
  refine pg_0_5 C hnm (zGn ho (show zK 125 = (0, 9) from rfl) (by omega)) zic_0 (zm zwd_377) ev15 (zd tX0_init 26 rfl) ?_
  refine z_aload_n C (zd tX0_init 27 rfl) rfl ?_
  refine z_sipush C (by decide) (zd tX0_init 28 rfl) ?_
  obtain ⟨v16, ev16, h⟩ := zb_some h
  have hv16 : zV0 v16 := by rw [ev16]; exact hv15.fr
  have ea : zEo E + (135) = 135 := by rw [ho]
  refine z_newA C hz hRm (tg := 20) (fty := .int) (N := 676) (M := 676) (k' := 10) (n' := 6089) (nn' := 136) (by simp) rfl (by decide) (by rw [ea]; exact (show zK 135 = (20, 676) from rfl)) (zm zwd_59) ⟨rfl, rfl⟩ ⟨Nat.le_of_ble_eq_true rfl, Nat.le_of_ble_eq_true rfl⟩ ea rfl ev16 (zd tX0_init 29 rfl) ?_
  have C : zC E (136) _ _ _ := C.to (by omega) (by have := hNw.2.2 trivial; omega)
  obtain ⟨v17, ev17, h⟩ := zb_some h
  have hv17 : zV0 v17 := by rw [ev17]; exact hv16.st (zRn (by omega))
  refine pg_0_6 C hnm (zGn ho (show zK 125 = (0, 9) from rfl) (by omega)) zic_0 (zm zwd_378) ev17 (zd tX0_init 30 rfl) ?_
  refine z_aload_n C (zd tX0_init 31 rfl) rfl ?_
  refine z_sipush C (by decide) (zd tX0_init 32 rfl) ?_
  obtain ⟨v18, ev18, h⟩ := zb_some h
  have hv18 : zV0 v18 := by rw [ev18]; exact hv17.fr
  have ea : zEo E + (136) = 136 := by rw [ho]
  refine z_newA C hz hRm (tg := 20) (fty := .int) (N := 29068) (M := 29068) (k' := 11) (n' := 35157) (nn' := 137) (by simp) rfl (by decide) (by rw [ea]; exact (show zK 136 = (20, 29068) from rfl)) (zm zwd_59) ⟨rfl, rfl⟩ ⟨Nat.le_of_ble_eq_true rfl, Nat.le_of_ble_eq_true rfl⟩ ea rfl ev18 (zd tX0_init 33 rfl) ?_
  have C : zC E (137) _ _ _ := C.to (by omega) (by have := hNw.2.2 trivial; omega)
  obtain ⟨v19, ev19, h⟩ := zb_some h
  have hv19 : zV0 v19 := by rw [ev19]; exact hv18.st (zRn (by omega))
  refine pg_0_7 C hnm (zGn ho (show zK 125 = (0, 9) from rfl) (by omega)) zic_0 (zm zwd_379) ev19 (zd tX0_init 34 rfl) ?_
  obtain ⟨rfl, rfl⟩ := zpi h
  exact ret.2.1 _ _ hv19 rfl rfl (zd tX0_init 35 rfl)
noncomputable def vsX11_init : List Cond := .code yX11_init cX11_init 2 none :: zbig
theorem pX11_init : yX11_init.cls = RX11 ∧ yX11_init.cls ≠ "java/lang/invoke/MethodHandle" ∧ yX11_init.cls ≠ "java/lang/invoke/VarHandle" ∧ (parseMethodDescriptor yX11_init.desc).map (fun d => d.parameters.length) = some 0 := by decide +kernel
abbrev rmX11_init : Room := { frames := 3, cells := 136, slots := 78850, locals := 65 }
set_option maxRecDepth 100000 in
set_option maxHeartbeats 4000000 in
theorem qX11_init (l : Launch) (D : va_G) (ids : Nat → ClassId) (b : Nat) {v v' : zHp} {r' : Int} (hv : zV0 v) (h : fX11_init v = some (v', r')) : zCTN l yX11_init vsX11_init rmX11_init D ids b 0 True (1) [zr 0] v (137) (zV0 v') none v' 136 78850 := by
  refine zMetN (own := RX11) (by decide +kernel) (show vsX11_init = _ from rfl) (Nat.le_of_ble_eq_true rfl) rfl ?_
  intro E hl hRm hD hids hb ho hz hN C hNw hname ret
  subst hl hD hids hb
  have hnm : (zEme E).name = "<init>" := hname
  unfold fX11_init at h
  refine z_aload_n C (zd tX11_init 0 rfl) rfl ?_
  refine z_objInit C hRm (zm zwd_28) (zm zwd_29) (zm zwd_30) ⟨Nat.le_of_ble_eq_true rfl, Nat.le_of_ble_eq_true rfl⟩ (zd tX11_init 1 rfl) ?_
  refine z_aload_n C (zd tX11_init 2 rfl) rfl ?_
  obtain ⟨v1, ev1, h⟩ := zb_some h
  have hv1 : zV0 v1 := by rw [ev1]; exact hv.fr
  have ea : zEo E + (1) = 1 := by rw [ho]
  refine z_newO C hz hRm (k' := 1) (n' := 6) (nn' := 2) tyX9 tyX9_ok df_9 (by rw [ea]; exact (show zK 1 = (9, 6) from rfl)) (by decide) rfl zic_9 (zm zwd_31) (zm zwd_32) (zm zwd_2) ⟨rfl, rfl⟩ ⟨Nat.le_of_ble_eq_true rfl, Nat.le_of_ble_eq_true rfl⟩ ea rfl ev1 (zd tX11_init 3 rfl) ?_
  have C : zC E (2) _ _ _ := C.to (by omega) (by have := hNw.2.2 trivial; omega)
  refine z_dup C (zd tX11_init 4 rfl) ?_
  obtain ⟨v2, r3, cv2, h⟩ := zcl_some h
  refine zc_I C hNw.1 ho hz hRm (nn := 2) (nn1 := 3) (mc := 1) (ms := 400) (st := [zr (1), zr (0)]) (qX9_init _ _ _ _ hv1 cv2) (zgI zwd_35) rfl (zm zwd_2) (by decide +kernel) (zm zwd_34) rfl pX9_init rfl ⟨⟨rfl, rfl⟩, ⟨Nat.le_of_ble_eq_true rfl, Nat.le_of_ble_eq_true rfl⟩, ⟨Nat.le_of_ble_eq_true rfl, Nat.le_of_ble_eq_true rfl⟩⟩ rfl (Nat.le_of_ble_eq_true rfl) (zd tX11_init 5 rfl) (fun p4 => ?_)
  have C : zC E (3) _ _ _ := C.to (by omega) (by have := hNw.2.2 trivial; omega)
  obtain ⟨v5, ev5, h⟩ := zb_some h
  have hv5 : zV0 v5 := by rw [ev5]; exact p4.st (zRn (by omega))
  refine pg_11_0 C hnm (zGn ho (show zK 0 = (11, 10) from rfl) (by omega)) zic_11 (zm zwd_400) ev5 (zd tX11_init 6 rfl) ?_
  refine z_aload_n C (zd tX11_init 7 rfl) rfl ?_
  obtain ⟨v6, ev6, h⟩ := zb_some h
  have hv6 : zV0 v6 := by rw [ev6]; exact hv5.fr
  have ea : zEo E + (3) = 3 := by rw [ho]
  refine z_newO C hz hRm (k' := 3) (n' := 408) (nn' := 4) tyX6 tyX6_ok df_6 (by rw [ea]; exact (show zK 3 = (6, 2) from rfl)) (by decide) rfl zic_6 (zm zwd_60) (zm zwd_61) (zm zwd_3) ⟨rfl, rfl⟩ ⟨Nat.le_of_ble_eq_true rfl, Nat.le_of_ble_eq_true rfl⟩ ea rfl ev6 (zd tX11_init 8 rfl) ?_
  have C : zC E (4) _ _ _ := C.to (by omega) (by have := hNw.2.2 trivial; omega)
  refine z_dup C (zd tX11_init 9 rfl) ?_
  obtain ⟨v7, r8, cv7, h⟩ := zcl_some h
  refine zc_I C hNw.1 ho hz hRm (nn := 4) (nn1 := 4) (mc := 0) (ms := 0) (st := [zr (3), zr (0)]) (qX6_init _ _ _ _ hv6 cv7) (zgI zwd_64) rfl (zm zwd_3) (by decide +kernel) (zm zwd_63) rfl pX6_init rfl ⟨⟨rfl, rfl⟩, ⟨Nat.le_of_ble_eq_true rfl, Nat.le_of_ble_eq_true rfl⟩, ⟨Nat.le_of_ble_eq_true rfl, Nat.le_of_ble_eq_true rfl⟩⟩ rfl (Nat.le_of_ble_eq_true rfl) (zd tX11_init 10 rfl) (fun p9 => ?_)
  obtain ⟨v10, ev10, h⟩ := zb_some h
  have hv10 : zV0 v10 := by rw [ev10]; exact p9.st (zRn (by omega))
  refine pg_11_1 C hnm (zGn ho (show zK 0 = (11, 10) from rfl) (by omega)) zic_11 (zm zwd_401) ev10 (zd tX11_init 11 rfl) ?_
  refine z_aload_n C (zd tX11_init 12 rfl) rfl ?_
  obtain ⟨v11, ev11, h⟩ := zb_some h
  have hv11 : zV0 v11 := by rw [ev11]; exact hv10.fr
  have ea : zEo E + (4) = 4 := by rw [ho]
  refine z_newO C hz hRm (k' := 4) (n' := 418) (nn' := 5) tyX7 tyX7_ok df_7 (by rw [ea]; exact (show zK 4 = (7, 10) from rfl)) (by decide) rfl zic_7 (zm zwd_73) (zm zwd_74) (zm zwd_4) ⟨rfl, rfl⟩ ⟨Nat.le_of_ble_eq_true rfl, Nat.le_of_ble_eq_true rfl⟩ ea rfl ev11 (zd tX11_init 13 rfl) ?_
  have C : zC E (5) _ _ _ := C.to (by omega) (by have := hNw.2.2 trivial; omega)
  refine z_dup C (zd tX11_init 14 rfl) ?_
  obtain ⟨v12, r13, cv12, h⟩ := zcl_some h
  refine zc_IP C hNw.1 ho hz hRm (nn := 5) (nn1 := 16) (mc := 11) (ms := 57) (st := [zr (4), zr (0)]) (qX7_init _ _ _ _ (show zK 4 = (7, 10) from rfl) hv11 cv12) (zgI zwd_77) rfl (zm zwd_4) (zm zwd_75) (zm zwd_76) rfl pX7_init rfl ⟨⟨rfl, rfl⟩, ⟨Nat.le_of_ble_eq_true rfl, Nat.le_of_ble_eq_true rfl⟩, ⟨Nat.le_of_ble_eq_true rfl, Nat.le_of_ble_eq_true rfl⟩⟩ rfl (Nat.le_of_ble_eq_true rfl) (zd tX11_init 15 rfl) (fun p14 => ?_)
  have C : zC E (16) _ _ _ := C.to (by omega) (by have := hNw.2.2 trivial; omega)
  obtain ⟨v15, ev15, h⟩ := zb_some h
  have hv15 : zV0 v15 := by rw [ev15]; exact p14.st (zRn (by omega))
  refine pf_11_2 C (zGn ho (show zK 0 = (11, 10) from rfl) (by omega)) zic_11 (zm zwd_402) ev15 (zd tX11_init 16 rfl) ?_
  refine z_aload_n C (zd tX11_init 17 rfl) rfl ?_
  obtain ⟨v16, ev16, h⟩ := zb_some h
  have hv16 : zV0 v16 := by rw [ev16]; exact hv15.fr
  have ea : zEo E + (16) = 16 := by rw [ho]
  refine z_newO C hz hRm (k' := 16) (n' := 485) (nn' := 17) tyX7 tyX7_ok df_7 (by rw [ea]; exact (show zK 16 = (7, 10) from rfl)) (by decide) rfl zic_7 (zm zwd_73) (zm zwd_74) (zm zwd_4) ⟨rfl, rfl⟩ ⟨Nat.le_of_ble_eq_true rfl, Nat.le_of_ble_eq_true rfl⟩ ea rfl ev16 (zd tX11_init 18 rfl) ?_
  have C : zC E (17) _ _ _ := C.to (by omega) (by have := hNw.2.2 trivial; omega)
  refine z_dup C (zd tX11_init 19 rfl) ?_
  obtain ⟨v17, r18, cv17, h⟩ := zcl_some h
  refine zc_IP C hNw.1 ho hz hRm (nn := 17) (nn1 := 28) (mc := 11) (ms := 57) (st := [zr (16), zr (0)]) (qX7_init _ _ _ _ (show zK 16 = (7, 10) from rfl) hv16 cv17) (zgI zwd_77) rfl (zm zwd_4) (zm zwd_75) (zm zwd_76) rfl pX7_init rfl ⟨⟨rfl, rfl⟩, ⟨Nat.le_of_ble_eq_true rfl, Nat.le_of_ble_eq_true rfl⟩, ⟨Nat.le_of_ble_eq_true rfl, Nat.le_of_ble_eq_true rfl⟩⟩ rfl (Nat.le_of_ble_eq_true rfl) (zd tX11_init 20 rfl) (fun p19 => ?_)
  have C : zC E (28) _ _ _ := C.to (by omega) (by have := hNw.2.2 trivial; omega)
  obtain ⟨v20, ev20, h⟩ := zb_some h
  have hv20 : zV0 v20 := by rw [ev20]; exact p19.st (zRn (by omega))
  refine pf_11_3 C (zGn ho (show zK 0 = (11, 10) from rfl) (by omega)) zic_11 (zm zwd_403) ev20 (zd tX11_init 21 rfl) ?_
  refine z_aload_n C (zd tX11_init 22 rfl) rfl ?_
  refine z_iconst C (zd tX11_init 23 rfl) ?_
  obtain ⟨v21, ev21, h⟩ := zb_some h
  have hv21 : zV0 v21 := by rw [ev21]; exact hv20.fr
  have ea : zEo E + (28) = 28 := by rw [ho]
  refine z_newR C hz hRm (tg := 23) (ci := 1) (N := 4) (M := 4) (k' := 28) (n' := 546) (nn' := 29) (by decide) (by decide) rfl hNw.1.2.1 rfl (by decide) (by rw [ea]; exact (show zK 28 = (23, 4) from rfl)) (zm zwd_206) ⟨rfl, rfl⟩ ⟨Nat.le_of_ble_eq_true rfl, Nat.le_of_ble_eq_true rfl⟩ ea rfl ev21 (zd tX11_init 24 rfl) ?_
  have C : zC E (29) _ _ _ := C.to (by omega) (by have := hNw.2.2 trivial; omega)
  obtain ⟨v22, ev22, h⟩ := zb_some h
  have hv22 : zV0 v22 := by rw [ev22]; exact hv21.st (zRn (by omega))
  refine pg_11_4 C hnm (zGn ho (show zK 0 = (11, 10) from rfl) (by omega)) zic_11 (zm zwd_404) ev22 (zd tX11_init 25 rfl) ?_
  refine z_aload_n C (zd tX11_init 26 rfl) rfl ?_
  refine z_iconst C (zd tX11_init 27 rfl) ?_
  obtain ⟨v23, ev23, h⟩ := zb_some h
  have hv23 : zV0 v23 := by rw [ev23]; exact hv22.fr
  have ea : zEo E + (29) = 29 := by rw [ho]
  refine z_newR C hz hRm (tg := 25) (ci := 8) (N := 4) (M := 4) (k' := 29) (n' := 550) (nn' := 30) (by decide) (by decide) rfl hNw.1.2.2.2 rfl (by decide) (by rw [ea]; exact (show zK 29 = (25, 4) from rfl)) (zm zwd_208) ⟨rfl, rfl⟩ ⟨Nat.le_of_ble_eq_true rfl, Nat.le_of_ble_eq_true rfl⟩ ea rfl ev23 (zd tX11_init 28 rfl) ?_
  have C : zC E (30) _ _ _ := C.to (by omega) (by have := hNw.2.2 trivial; omega)
  obtain ⟨v24, ev24, h⟩ := zb_some h
  have hv24 : zV0 v24 := by rw [ev24]; exact hv23.st (zRn (by omega))
  refine pg_11_5 C hnm (zGn ho (show zK 0 = (11, 10) from rfl) (by omega)) zic_11 (zm zwd_405) ev24 (zd tX11_init 29 rfl) ?_
  refine z_iconst C (zd tX11_init 30 rfl) ?_
  refine z_istore_n C (zd tX11_init 31 rfl) (by rw [hN]; decide) ?_
  refine z_iload_n C (zd tX11_init 32 rfl) rfl ?_
  refine z_iconst C (zd tX11_init 33 rfl) ?_
  refine z_icmp_ge (tgt := 103) (X := none) (Y := some ()) (res := ()) C (zR_c 0 rfl) (zR_c 4 rfl) (zd tX11_init 34 rfl) (by decide) (by decide) (fun h => by cases h) (fun _ => ?_)
  refine z_aload_n C (zd tX11_init 35 rfl) rfl ?_
  obtain ⟨q25, h⟩ := zck_some h
  refine gl_11_4 C (zGn ho (show zK 0 = (11, 10) from rfl) (by omega)) zic_11 (zm zwd_404) q25 (zd tX11_init 36 rfl) ?_
  refine z_iload_n C (zd tX11_init 37 rfl) rfl ?_
  obtain ⟨v26, ev26, h⟩ := zb_some h
  have hv26 : zV0 v26 := by rw [ev26]; exact hv24.fr
  have ea : zEo E + (30) = 30 := by rw [ho]
  refine z_newO C hz hRm (k' := 30) (n' := 553) (nn' := 31) tyX1 tyX1_ok df_1 (by rw [ea]; exact (show zK 30 = (1, 3) from rfl)) (by decide) rfl zic_1 (zm zwd_206) (zm zwd_210) (zm zwd_7) ⟨rfl, rfl⟩ ⟨Nat.le_of_ble_eq_true rfl, Nat.le_of_ble_eq_true rfl⟩ ea rfl ev26 (zd tX11_init 38 rfl) ?_
  have C : zC E (31) _ _ _ := C.to (by omega) (by have := hNw.2.2 trivial; omega)
  refine z_dup C (zd tX11_init 39 rfl) ?_
  obtain ⟨v27, r28, cv27, h⟩ := zcl_some h
  refine zc_I C hNw.1 ho hz hRm (nn := 31) (nn1 := 33) (mc := 2) (ms := 120) (st := [zr (30), zi 0, zr (28)]) (qX1_init _ _ _ _ (show zK 30 = (1, 3) from rfl) hv26 cv27) (zgI zwd_213) rfl (zm zwd_7) (by decide +kernel) (zm zwd_212) rfl pX1_init rfl ⟨⟨rfl, rfl⟩, ⟨Nat.le_of_ble_eq_true rfl, Nat.le_of_ble_eq_true rfl⟩, ⟨Nat.le_of_ble_eq_true rfl, Nat.le_of_ble_eq_true rfl⟩⟩ rfl (Nat.le_of_ble_eq_true rfl) (zd tX11_init 40 rfl) (fun p29 => ?_)
  have C : zC E (33) _ _ _ := C.to (by omega) (by have := hNw.2.2 trivial; omega)
  obtain ⟨v30, ev30, h⟩ := zb_some h
  have hv30 : zV0 v30 := by rw [ev30]; exact p29.st (zRn (by omega))
  refine z_aast C (zGn ho (show zK 28 = (23, 4) from rfl) (by omega)) (zGn ho (show zK 30 = (1, 3) from rfl) (by omega)) (by decide) (by decide) (by decide) rfl (M := 4) rfl (by decide) (by decide) ev30 (zd tX11_init 41 rfl) ?_
  refine z_aload_n C (zd tX11_init 42 rfl) rfl ?_
  obtain ⟨q31, h⟩ := zck_some h
  refine gl_11_5 C (zGn ho (show zK 0 = (11, 10) from rfl) (by omega)) zic_11 (zm zwd_405) q31 (zd tX11_init 43 rfl) ?_
  refine z_iload_n C (zd tX11_init 44 rfl) rfl ?_
  obtain ⟨v32, ev32, h⟩ := zb_some h
  have hv32 : zV0 v32 := by rw [ev32]; exact hv30.fr
  have ea : zEo E + (33) = 33 := by rw [ho]
  refine z_newO C hz hRm (k' := 33) (n' := 687) (nn' := 34) tyX8 tyX8_ok df_8 (by rw [ea]; exact (show zK 33 = (8, 14) from rfl)) (by decide) rfl zic_8 (zm zwd_208) (zm zwd_231) (zm zwd_8) ⟨rfl, rfl⟩ ⟨Nat.le_of_ble_eq_true rfl, Nat.le_of_ble_eq_true rfl⟩ ea rfl ev32 (zd tX11_init 45 rfl) ?_
  have C : zC E (34) _ _ _ := C.to (by omega) (by have := hNw.2.2 trivial; omega)
  refine z_dup C (zd tX11_init 46 rfl) ?_
  obtain ⟨v33, r34, cv33, h⟩ := zcl_some h
  refine zc_I C hNw.1 ho hz hRm (nn := 34) (nn1 := 48) (mc := 14) (ms := 8476) (st := [zr (33), zi 0, zr (29)]) (qX8_init _ _ _ _ (show zK 33 = (8, 14) from rfl) hv32 cv33) (zgI zwd_234) rfl (zm zwd_8) (by decide +kernel) (zm zwd_233) rfl pX8_init rfl ⟨⟨rfl, rfl⟩, ⟨Nat.le_of_ble_eq_true rfl, Nat.le_of_ble_eq_true rfl⟩, ⟨Nat.le_of_ble_eq_true rfl, Nat.le_of_ble_eq_true rfl⟩⟩ rfl (Nat.le_of_ble_eq_true rfl) (zd tX11_init 47 rfl) (fun p35 => ?_)
  have C : zC E (48) _ _ _ := C.to (by omega) (by have := hNw.2.2 trivial; omega)
  obtain ⟨v36, ev36, h⟩ := zb_some h
  have hv36 : zV0 v36 := by rw [ev36]; exact p35.st (zRn (by omega))
  refine z_aast C (zGn ho (show zK 29 = (25, 4) from rfl) (by omega)) (zGn ho (show zK 33 = (8, 14) from rfl) (by omega)) (by decide) (by decide) (by decide) rfl (M := 4) rfl (by decide) (by decide) ev36 (zd tX11_init 48 rfl) ?_
  refine z_iincE (t := 1) C (zd tX11_init 49 rfl) (by rw [hN]; decide) rfl (by decide) ?_
  refine z_goto (tgt := 66) C (zd tX11_init 50 rfl) (by decide) ?_
  refine z_iload_n C (zd tX11_init 32 rfl) rfl ?_
  refine z_iconst C (zd tX11_init 33 rfl) ?_
  refine z_icmp_ge (tgt := 103) (X := none) (Y := some ()) (res := ()) C (zR_c 1 rfl) (zR_c 4 rfl) (zd tX11_init 34 rfl) (by decide) (by decide) (fun h => by cases h) (fun _ => ?_)
  refine z_aload_n C (zd tX11_init 35 rfl) rfl ?_
  obtain ⟨q37, h⟩ := zck_some h
  refine gl_11_4 C (zGn ho (show zK 0 = (11, 10) from rfl) (by omega)) zic_11 (zm zwd_404) q37 (zd tX11_init 36 rfl) ?_
  refine z_iload_n C (zd tX11_init 37 rfl) rfl ?_
  obtain ⟨v38, ev38, h⟩ := zb_some h
  have hv38 : zV0 v38 := by rw [ev38]; exact hv36.fr
  have ea : zEo E + (48) = 48 := by rw [ho]
  refine z_newO C hz hRm (k' := 48) (n' := 9166) (nn' := 49) tyX1 tyX1_ok df_1 (by rw [ea]; exact (show zK 48 = (1, 3) from rfl)) (by decide) rfl zic_1 (zm zwd_206) (zm zwd_210) (zm zwd_7) ⟨rfl, rfl⟩ ⟨Nat.le_of_ble_eq_true rfl, Nat.le_of_ble_eq_true rfl⟩ ea rfl ev38 (zd tX11_init 38 rfl) ?_
  have C : zC E (49) _ _ _ := C.to (by omega) (by have := hNw.2.2 trivial; omega)
  refine z_dup C (zd tX11_init 39 rfl) ?_
  obtain ⟨v39, r40, cv39, h⟩ := zcl_some h
  refine zc_I C hNw.1 ho hz hRm (nn := 49) (nn1 := 51) (mc := 2) (ms := 120) (st := [zr (48), zi 1, zr (28)]) (qX1_init _ _ _ _ (show zK 48 = (1, 3) from rfl) hv38 cv39) (zgI zwd_213) rfl (zm zwd_7) (by decide +kernel) (zm zwd_212) rfl pX1_init rfl ⟨⟨rfl, rfl⟩, ⟨Nat.le_of_ble_eq_true rfl, Nat.le_of_ble_eq_true rfl⟩, ⟨Nat.le_of_ble_eq_true rfl, Nat.le_of_ble_eq_true rfl⟩⟩ rfl (Nat.le_of_ble_eq_true rfl) (zd tX11_init 40 rfl) (fun p41 => ?_)
  have C : zC E (51) _ _ _ := C.to (by omega) (by have := hNw.2.2 trivial; omega)
  obtain ⟨v42, ev42, h⟩ := zb_some h
  have hv42 : zV0 v42 := by rw [ev42]; exact p41.st (zRn (by omega))
  refine z_aast C (zGn ho (show zK 28 = (23, 4) from rfl) (by omega)) (zGn ho (show zK 48 = (1, 3) from rfl) (by omega)) (by decide) (by decide) (by decide) rfl (M := 4) rfl (by decide) (by decide) ev42 (zd tX11_init 41 rfl) ?_
  refine z_aload_n C (zd tX11_init 42 rfl) rfl ?_
  obtain ⟨q43, h⟩ := zck_some h
  refine gl_11_5 C (zGn ho (show zK 0 = (11, 10) from rfl) (by omega)) zic_11 (zm zwd_405) q43 (zd tX11_init 43 rfl) ?_
  refine z_iload_n C (zd tX11_init 44 rfl) rfl ?_
  obtain ⟨v44, ev44, h⟩ := zb_some h
  have hv44 : zV0 v44 := by rw [ev44]; exact hv42.fr
  have ea : zEo E + (51) = 51 := by rw [ho]
  refine z_newO C hz hRm (k' := 51) (n' := 9300) (nn' := 52) tyX8 tyX8_ok df_8 (by rw [ea]; exact (show zK 51 = (8, 14) from rfl)) (by decide) rfl zic_8 (zm zwd_208) (zm zwd_231) (zm zwd_8) ⟨rfl, rfl⟩ ⟨Nat.le_of_ble_eq_true rfl, Nat.le_of_ble_eq_true rfl⟩ ea rfl ev44 (zd tX11_init 45 rfl) ?_
  have C : zC E (52) _ _ _ := C.to (by omega) (by have := hNw.2.2 trivial; omega)
  refine z_dup C (zd tX11_init 46 rfl) ?_
  obtain ⟨v45, r46, cv45, h⟩ := zcl_some h
  refine zc_I C hNw.1 ho hz hRm (nn := 52) (nn1 := 66) (mc := 14) (ms := 8476) (st := [zr (51), zi 1, zr (29)]) (qX8_init _ _ _ _ (show zK 51 = (8, 14) from rfl) hv44 cv45) (zgI zwd_234) rfl (zm zwd_8) (by decide +kernel) (zm zwd_233) rfl pX8_init rfl ⟨⟨rfl, rfl⟩, ⟨Nat.le_of_ble_eq_true rfl, Nat.le_of_ble_eq_true rfl⟩, ⟨Nat.le_of_ble_eq_true rfl, Nat.le_of_ble_eq_true rfl⟩⟩ rfl (Nat.le_of_ble_eq_true rfl) (zd tX11_init 47 rfl) (fun p47 => ?_)
  have C : zC E (66) _ _ _ := C.to (by omega) (by have := hNw.2.2 trivial; omega)
  obtain ⟨v48, ev48, h⟩ := zb_some h
  have hv48 : zV0 v48 := by rw [ev48]; exact p47.st (zRn (by omega))
  refine z_aast C (zGn ho (show zK 29 = (25, 4) from rfl) (by omega)) (zGn ho (show zK 51 = (8, 14) from rfl) (by omega)) (by decide) (by decide) (by decide) rfl (M := 4) rfl (by decide) (by decide) ev48 (zd tX11_init 48 rfl) ?_
  refine z_iincE (t := 2) C (zd tX11_init 49 rfl) (by rw [hN]; decide) rfl (by decide) ?_
  refine z_goto (tgt := 66) C (zd tX11_init 50 rfl) (by decide) ?_
  refine z_iload_n C (zd tX11_init 32 rfl) rfl ?_
  refine z_iconst C (zd tX11_init 33 rfl) ?_
  refine z_icmp_ge (tgt := 103) (X := none) (Y := some ()) (res := ()) C (zR_c 2 rfl) (zR_c 4 rfl) (zd tX11_init 34 rfl) (by decide) (by decide) (fun h => by cases h) (fun _ => ?_)
  refine z_aload_n C (zd tX11_init 35 rfl) rfl ?_
  obtain ⟨q49, h⟩ := zck_some h
  refine gl_11_4 C (zGn ho (show zK 0 = (11, 10) from rfl) (by omega)) zic_11 (zm zwd_404) q49 (zd tX11_init 36 rfl) ?_
  refine z_iload_n C (zd tX11_init 37 rfl) rfl ?_
  obtain ⟨v50, ev50, h⟩ := zb_some h
  have hv50 : zV0 v50 := by rw [ev50]; exact hv48.fr
  have ea : zEo E + (66) = 66 := by rw [ho]
  refine z_newO C hz hRm (k' := 66) (n' := 17779) (nn' := 67) tyX1 tyX1_ok df_1 (by rw [ea]; exact (show zK 66 = (1, 3) from rfl)) (by decide) rfl zic_1 (zm zwd_206) (zm zwd_210) (zm zwd_7) ⟨rfl, rfl⟩ ⟨Nat.le_of_ble_eq_true rfl, Nat.le_of_ble_eq_true rfl⟩ ea rfl ev50 (zd tX11_init 38 rfl) ?_
  have C : zC E (67) _ _ _ := C.to (by omega) (by have := hNw.2.2 trivial; omega)
  refine z_dup C (zd tX11_init 39 rfl) ?_
  obtain ⟨v51, r52, cv51, h⟩ := zcl_some h
  refine zc_I C hNw.1 ho hz hRm (nn := 67) (nn1 := 69) (mc := 2) (ms := 120) (st := [zr (66), zi 2, zr (28)]) (qX1_init _ _ _ _ (show zK 66 = (1, 3) from rfl) hv50 cv51) (zgI zwd_213) rfl (zm zwd_7) (by decide +kernel) (zm zwd_212) rfl pX1_init rfl ⟨⟨rfl, rfl⟩, ⟨Nat.le_of_ble_eq_true rfl, Nat.le_of_ble_eq_true rfl⟩, ⟨Nat.le_of_ble_eq_true rfl, Nat.le_of_ble_eq_true rfl⟩⟩ rfl (Nat.le_of_ble_eq_true rfl) (zd tX11_init 40 rfl) (fun p53 => ?_)
  have C : zC E (69) _ _ _ := C.to (by omega) (by have := hNw.2.2 trivial; omega)
  obtain ⟨v54, ev54, h⟩ := zb_some h
  have hv54 : zV0 v54 := by rw [ev54]; exact p53.st (zRn (by omega))
  refine z_aast C (zGn ho (show zK 28 = (23, 4) from rfl) (by omega)) (zGn ho (show zK 66 = (1, 3) from rfl) (by omega)) (by decide) (by decide) (by decide) rfl (M := 4) rfl (by decide) (by decide) ev54 (zd tX11_init 41 rfl) ?_
  refine z_aload_n C (zd tX11_init 42 rfl) rfl ?_
  obtain ⟨q55, h⟩ := zck_some h
  refine gl_11_5 C (zGn ho (show zK 0 = (11, 10) from rfl) (by omega)) zic_11 (zm zwd_405) q55 (zd tX11_init 43 rfl) ?_
  refine z_iload_n C (zd tX11_init 44 rfl) rfl ?_
  obtain ⟨v56, ev56, h⟩ := zb_some h
  have hv56 : zV0 v56 := by rw [ev56]; exact hv54.fr
  have ea : zEo E + (69) = 69 := by rw [ho]
  refine z_newO C hz hRm (k' := 69) (n' := 17913) (nn' := 70) tyX8 tyX8_ok df_8 (by rw [ea]; exact (show zK 69 = (8, 14) from rfl)) (by decide) rfl zic_8 (zm zwd_208) (zm zwd_231) (zm zwd_8) ⟨rfl, rfl⟩ ⟨Nat.le_of_ble_eq_true rfl, Nat.le_of_ble_eq_true rfl⟩ ea rfl ev56 (zd tX11_init 45 rfl) ?_
  have C : zC E (70) _ _ _ := C.to (by omega) (by have := hNw.2.2 trivial; omega)
  refine z_dup C (zd tX11_init 46 rfl) ?_
  obtain ⟨v57, r58, cv57, h⟩ := zcl_some h
  refine zc_I C hNw.1 ho hz hRm (nn := 70) (nn1 := 84) (mc := 14) (ms := 8476) (st := [zr (69), zi 2, zr (29)]) (qX8_init _ _ _ _ (show zK 69 = (8, 14) from rfl) hv56 cv57) (zgI zwd_234) rfl (zm zwd_8) (by decide +kernel) (zm zwd_233) rfl pX8_init rfl ⟨⟨rfl, rfl⟩, ⟨Nat.le_of_ble_eq_true rfl, Nat.le_of_ble_eq_true rfl⟩, ⟨Nat.le_of_ble_eq_true rfl, Nat.le_of_ble_eq_true rfl⟩⟩ rfl (Nat.le_of_ble_eq_true rfl) (zd tX11_init 47 rfl) (fun p59 => ?_)
  have C : zC E (84) _ _ _ := C.to (by omega) (by have := hNw.2.2 trivial; omega)
  obtain ⟨v60, ev60, h⟩ := zb_some h
  have hv60 : zV0 v60 := by rw [ev60]; exact p59.st (zRn (by omega))
  refine z_aast C (zGn ho (show zK 29 = (25, 4) from rfl) (by omega)) (zGn ho (show zK 69 = (8, 14) from rfl) (by omega)) (by decide) (by decide) (by decide) rfl (M := 4) rfl (by decide) (by decide) ev60 (zd tX11_init 48 rfl) ?_
  refine z_iincE (t := 3) C (zd tX11_init 49 rfl) (by rw [hN]; decide) rfl (by decide) ?_
  refine z_goto (tgt := 66) C (zd tX11_init 50 rfl) (by decide) ?_
  refine z_iload_n C (zd tX11_init 32 rfl) rfl ?_
  refine z_iconst C (zd tX11_init 33 rfl) ?_
  refine z_icmp_ge (tgt := 103) (X := none) (Y := some ()) (res := ()) C (zR_c 3 rfl) (zR_c 4 rfl) (zd tX11_init 34 rfl) (by decide) (by decide) (fun h => by cases h) (fun _ => ?_)
  refine z_aload_n C (zd tX11_init 35 rfl) rfl ?_
  obtain ⟨q61, h⟩ := zck_some h
  refine gl_11_4 C (zGn ho (show zK 0 = (11, 10) from rfl) (by omega)) zic_11 (zm zwd_404) q61 (zd tX11_init 36 rfl) ?_
  refine z_iload_n C (zd tX11_init 37 rfl) rfl ?_
  obtain ⟨v62, ev62, h⟩ := zb_some h
  have hv62 : zV0 v62 := by rw [ev62]; exact hv60.fr
  have ea : zEo E + (84) = 84 := by rw [ho]
  refine z_newO C hz hRm (k' := 84) (n' := 26392) (nn' := 85) tyX1 tyX1_ok df_1 (by rw [ea]; exact (show zK 84 = (1, 3) from rfl)) (by decide) rfl zic_1 (zm zwd_206) (zm zwd_210) (zm zwd_7) ⟨rfl, rfl⟩ ⟨Nat.le_of_ble_eq_true rfl, Nat.le_of_ble_eq_true rfl⟩ ea rfl ev62 (zd tX11_init 38 rfl) ?_
  have C : zC E (85) _ _ _ := C.to (by omega) (by have := hNw.2.2 trivial; omega)
  refine z_dup C (zd tX11_init 39 rfl) ?_
  obtain ⟨v63, r64, cv63, h⟩ := zcl_some h
  refine zc_I C hNw.1 ho hz hRm (nn := 85) (nn1 := 87) (mc := 2) (ms := 120) (st := [zr (84), zi 3, zr (28)]) (qX1_init _ _ _ _ (show zK 84 = (1, 3) from rfl) hv62 cv63) (zgI zwd_213) rfl (zm zwd_7) (by decide +kernel) (zm zwd_212) rfl pX1_init rfl ⟨⟨rfl, rfl⟩, ⟨Nat.le_of_ble_eq_true rfl, Nat.le_of_ble_eq_true rfl⟩, ⟨Nat.le_of_ble_eq_true rfl, Nat.le_of_ble_eq_true rfl⟩⟩ rfl (Nat.le_of_ble_eq_true rfl) (zd tX11_init 40 rfl) (fun p65 => ?_)
  have C : zC E (87) _ _ _ := C.to (by omega) (by have := hNw.2.2 trivial; omega)
  obtain ⟨v66, ev66, h⟩ := zb_some h
  have hv66 : zV0 v66 := by rw [ev66]; exact p65.st (zRn (by omega))
  refine z_aast C (zGn ho (show zK 28 = (23, 4) from rfl) (by omega)) (zGn ho (show zK 84 = (1, 3) from rfl) (by omega)) (by decide) (by decide) (by decide) rfl (M := 4) rfl (by decide) (by decide) ev66 (zd tX11_init 41 rfl) ?_
  refine z_aload_n C (zd tX11_init 42 rfl) rfl ?_
  obtain ⟨q67, h⟩ := zck_some h
  refine gl_11_5 C (zGn ho (show zK 0 = (11, 10) from rfl) (by omega)) zic_11 (zm zwd_405) q67 (zd tX11_init 43 rfl) ?_
  refine z_iload_n C (zd tX11_init 44 rfl) rfl ?_
  obtain ⟨v68, ev68, h⟩ := zb_some h
  have hv68 : zV0 v68 := by rw [ev68]; exact hv66.fr
  have ea : zEo E + (87) = 87 := by rw [ho]
  refine z_newO C hz hRm (k' := 87) (n' := 26526) (nn' := 88) tyX8 tyX8_ok df_8 (by rw [ea]; exact (show zK 87 = (8, 14) from rfl)) (by decide) rfl zic_8 (zm zwd_208) (zm zwd_231) (zm zwd_8) ⟨rfl, rfl⟩ ⟨Nat.le_of_ble_eq_true rfl, Nat.le_of_ble_eq_true rfl⟩ ea rfl ev68 (zd tX11_init 45 rfl) ?_
  have C : zC E (88) _ _ _ := C.to (by omega) (by have := hNw.2.2 trivial; omega)
  refine z_dup C (zd tX11_init 46 rfl) ?_
  obtain ⟨v69, r70, cv69, h⟩ := zcl_some h
  refine zc_I C hNw.1 ho hz hRm (nn := 88) (nn1 := 102) (mc := 14) (ms := 8476) (st := [zr (87), zi 3, zr (29)]) (qX8_init _ _ _ _ (show zK 87 = (8, 14) from rfl) hv68 cv69) (zgI zwd_234) rfl (zm zwd_8) (by decide +kernel) (zm zwd_233) rfl pX8_init rfl ⟨⟨rfl, rfl⟩, ⟨Nat.le_of_ble_eq_true rfl, Nat.le_of_ble_eq_true rfl⟩, ⟨Nat.le_of_ble_eq_true rfl, Nat.le_of_ble_eq_true rfl⟩⟩ rfl (Nat.le_of_ble_eq_true rfl) (zd tX11_init 47 rfl) (fun p71 => ?_)
  have C : zC E (102) _ _ _ := C.to (by omega) (by have := hNw.2.2 trivial; omega)
  obtain ⟨v72, ev72, h⟩ := zb_some h
  have hv72 : zV0 v72 := by rw [ev72]; exact p71.st (zRn (by omega))
  refine z_aast C (zGn ho (show zK 29 = (25, 4) from rfl) (by omega)) (zGn ho (show zK 87 = (8, 14) from rfl) (by omega)) (by decide) (by decide) (by decide) rfl (M := 4) rfl (by decide) (by decide) ev72 (zd tX11_init 48 rfl) ?_
  refine z_iincE (t := 4) C (zd tX11_init 49 rfl) (by rw [hN]; decide) rfl (by decide) ?_
  refine z_goto (tgt := 66) C (zd tX11_init 50 rfl) (by decide) ?_
  refine z_iload_n C (zd tX11_init 32 rfl) rfl ?_
  refine z_iconst C (zd tX11_init 33 rfl) ?_
  refine z_icmp_ge (tgt := 103) (X := some ()) (Y := none) (res := ()) C (zR_c 4 rfl) (zR_c 4 rfl) (zd tX11_init 34 rfl) (by decide) (by decide) (fun _ => ?_) (fun h => by cases h)
  refine z_aload_n C (zd tX11_init 51 rfl) rfl ?_
  obtain ⟨v73, ev73, h⟩ := zb_some h
  have hv73 : zV0 v73 := by rw [ev73]; exact hv72.fr
  have ea : zEo E + (102) = 102 := by rw [ho]
  refine z_newO C hz hRm (k' := 102) (n' := 35007) (nn' := 103) tyX3 tyX3_ok df_3 (by rw [ea]; exact (show zK 102 = (3, 5) from rfl)) (by decide) rfl zic_3 (zm zwd_308) (zm zwd_309) (zm zwd_10) ⟨rfl, rfl⟩ ⟨Nat.le_of_ble_eq_true rfl, Nat.le_of_ble_eq_true rfl⟩ ea rfl ev73 (zd tX11_init 52 rfl) ?_
  have C : zC E (103) _ _ _ := C.to (by omega) (by have := hNw.2.2 trivial; omega)
  refine z_dup C (zd tX11_init 53 rfl) ?_
  obtain ⟨v74, r75, cv74, h⟩ := zcl_some h
  refine zc_I C hNw.1 ho hz hRm (nn := 103) (nn1 := 107) (mc := 4) (ms := 64) (st := [zr (102), zr (0)]) (qX3_init _ _ _ _ hv73 cv74) (zgI zwd_312) rfl (zm zwd_10) (by decide +kernel) (zm zwd_311) rfl pX3_init rfl ⟨⟨rfl, rfl⟩, ⟨Nat.le_of_ble_eq_true rfl, Nat.le_of_ble_eq_true rfl⟩, ⟨Nat.le_of_ble_eq_true rfl, Nat.le_of_ble_eq_true rfl⟩⟩ rfl (Nat.le_of_ble_eq_true rfl) (zd tX11_init 54 rfl) (fun p76 => ?_)
  have C : zC E (107) _ _ _ := C.to (by omega) (by have := hNw.2.2 trivial; omega)
  obtain ⟨v77, ev77, h⟩ := zb_some h
  have hv77 : zV0 v77 := by rw [ev77]; exact p76.st (zRn (by omega))
  refine pg_11_6 C hnm (zGn ho (show zK 0 = (11, 10) from rfl) (by omega)) zic_11 (zm zwd_406) ev77 (zd tX11_init 55 rfl) ?_
  refine z_aload_n C (zd tX11_init 56 rfl) rfl ?_
  obtain ⟨v78, ev78, h⟩ := zb_some h
  have hv78 : zV0 v78 := by rw [ev78]; exact hv77.fr
  have ea : zEo E + (107) = 107 := by rw [ho]
  refine z_newO C hz hRm (k' := 107) (n' := 35074) (nn' := 108) tyX1 tyX1_ok df_1 (by rw [ea]; exact (show zK 107 = (1, 3) from rfl)) (by decide) rfl zic_1 (zm zwd_206) (zm zwd_210) (zm zwd_7) ⟨rfl, rfl⟩ ⟨Nat.le_of_ble_eq_true rfl, Nat.le_of_ble_eq_true rfl⟩ ea rfl ev78 (zd tX11_init 57 rfl) ?_
  have C : zC E (108) _ _ _ := C.to (by omega) (by have := hNw.2.2 trivial; omega)
  refine z_dup C (zd tX11_init 58 rfl) ?_
  obtain ⟨v79, r80, cv79, h⟩ := zcl_some h
  refine zc_I C hNw.1 ho hz hRm (nn := 108) (nn1 := 110) (mc := 2) (ms := 120) (st := [zr (107), zr (0)]) (qX1_init _ _ _ _ (show zK 107 = (1, 3) from rfl) hv78 cv79) (zgI zwd_213) rfl (zm zwd_7) (by decide +kernel) (zm zwd_212) rfl pX1_init rfl ⟨⟨rfl, rfl⟩, ⟨Nat.le_of_ble_eq_true rfl, Nat.le_of_ble_eq_true rfl⟩, ⟨Nat.le_of_ble_eq_true rfl, Nat.le_of_ble_eq_true rfl⟩⟩ rfl (Nat.le_of_ble_eq_true rfl) (zd tX11_init 59 rfl) (fun p81 => ?_)
  have C : zC E (110) _ _ _ := C.to (by omega) (by have := hNw.2.2 trivial; omega)
  obtain ⟨v82, ev82, h⟩ := zb_some h
  have hv82 : zV0 v82 := by rw [ev82]; exact p81.st (zRn (by omega))
  refine pg_11_7 C hnm (zGn ho (show zK 0 = (11, 10) from rfl) (by omega)) zic_11 (zm zwd_407) ev82 (zd tX11_init 60 rfl) ?_
  refine z_aload_n C (zd tX11_init 61 rfl) rfl ?_
  obtain ⟨v83, ev83, h⟩ := zb_some h
  have hv83 : zV0 v83 := by rw [ev83]; exact hv82.fr
  have ea : zEo E + (110) = 110 := by rw [ho]
  refine z_newO C hz hRm (k' := 110) (n' := 35208) (nn' := 111) tyX8 tyX8_ok df_8 (by rw [ea]; exact (show zK 110 = (8, 14) from rfl)) (by decide) rfl zic_8 (zm zwd_208) (zm zwd_231) (zm zwd_8) ⟨rfl, rfl⟩ ⟨Nat.le_of_ble_eq_true rfl, Nat.le_of_ble_eq_true rfl⟩ ea rfl ev83 (zd tX11_init 62 rfl) ?_
  have C : zC E (111) _ _ _ := C.to (by omega) (by have := hNw.2.2 trivial; omega)
  refine z_dup C (zd tX11_init 63 rfl) ?_
  obtain ⟨v84, r85, cv84, h⟩ := zcl_some h
  refine zc_I C hNw.1 ho hz hRm (nn := 111) (nn1 := 125) (mc := 14) (ms := 8476) (st := [zr (110), zr (0)]) (qX8_init _ _ _ _ (show zK 110 = (8, 14) from rfl) hv83 cv84) (zgI zwd_234) rfl (zm zwd_8) (by decide +kernel) (zm zwd_233) rfl pX8_init rfl ⟨⟨rfl, rfl⟩, ⟨Nat.le_of_ble_eq_true rfl, Nat.le_of_ble_eq_true rfl⟩, ⟨Nat.le_of_ble_eq_true rfl, Nat.le_of_ble_eq_true rfl⟩⟩ rfl (Nat.le_of_ble_eq_true rfl) (zd tX11_init 64 rfl) (fun p86 => ?_)
  have C : zC E (125) _ _ _ := C.to (by omega) (by have := hNw.2.2 trivial; omega)
  obtain ⟨v87, ev87, h⟩ := zb_some h
  have hv87 : zV0 v87 := by rw [ev87]; exact p86.st (zRn (by omega))
  refine pg_11_8 C hnm (zGn ho (show zK 0 = (11, 10) from rfl) (by omega)) zic_11 (zm zwd_408) ev87 (zd tX11_init 65 rfl) ?_
  refine z_aload_n C (zd tX11_init 66 rfl) rfl ?_
  obtain ⟨v88, ev88, h⟩ := zb_some h
  have hv88 : zV0 v88 := by rw [ev88]; exact hv87.fr
  have ea : zEo E + (125) = 125 := by rw [ho]
  refine z_newO C hz hRm (k' := 125) (n' := 43693) (nn' := 126) tyX0 tyX0_ok df_0 (by rw [ea]; exact (show zK 125 = (0, 9) from rfl)) (by decide) rfl zic_0 (zm zwd_336) (zm zwd_337) (zm zwd_11) ⟨rfl, rfl⟩ ⟨Nat.le_of_ble_eq_true rfl, Nat.le_of_ble_eq_true rfl⟩ ea rfl ev88 (zd tX11_init 67 rfl) ?_
  have C : zC E (126) _ _ _ := C.to (by omega) (by have := hNw.2.2 trivial; omega)
  refine z_dup C (zd tX11_init 68 rfl) ?_
  obtain ⟨v89, r90, cv89, h⟩ := zcl_some h
  refine zc_I C hNw.1 ho hz hRm (nn := 126) (nn1 := 137) (mc := 11) (ms := 35157) (st := [zr (125), zr (0)]) (qX0_init _ _ _ _ hv88 cv89) (zgI zwd_340) rfl (zm zwd_11) (by decide +kernel) (zm zwd_339) rfl pX0_init rfl ⟨⟨rfl, rfl⟩, ⟨Nat.le_of_ble_eq_true rfl, Nat.le_of_ble_eq_true rfl⟩, ⟨Nat.le_of_ble_eq_true rfl, Nat.le_of_ble_eq_true rfl⟩⟩ rfl (Nat.le_of_ble_eq_true rfl) (zd tX11_init 69 rfl) (fun p91 => ?_)
  have C : zC E (137) _ _ _ := C.to (by omega) (by have := hNw.2.2 trivial; omega)
  obtain ⟨v92, ev92, h⟩ := zb_some h
  have hv92 : zV0 v92 := by rw [ev92]; exact p91.st (zRn (by omega))
  refine pg_11_9 C hnm (zGn ho (show zK 0 = (11, 10) from rfl) (by omega)) zic_11 (zm zwd_409) ev92 (zd tX11_init 70 rfl) ?_
  obtain ⟨rfl, rfl⟩ := zpi h
  exact ret.2.1 _ _ hv92 rfl rfl (zd tX11_init 71 rfl)
