noncomputable def vsX3_dropOldest : List Cond := .code yX3_dropOldest cX3_dropOldest 2 none :: zbig
abbrev rmX3_dropOldest : Room := { frames := 0, cells := 0, slots := 0, locals := 0 }
theorem pX3_dropOldest : yX3_dropOldest.cls = RX3 ∧ yX3_dropOldest.cls ≠ "java/lang/invoke/MethodHandle" ∧ yX3_dropOldest.cls ≠ "java/lang/invoke/VarHandle" ∧ (parseMethodDescriptor yX3_dropOldest.desc).map (fun d => d.parameters.length) = some 0 := by decide +kernel
set_option maxRecDepth 100000 in
set_option maxHeartbeats 4000000 in
theorem bX3_dropOldest_L12 {E : zE} (C : zC E 137 cX3_dropOldest RX3 vsX3_dropOldest) (hN : zEN E = 2) (ho : zEo E = 0) (hz : zEz E = False) (hRm : zER E = rmX3_dropOldest) : ∀ (fu : Nat) (v : zHp) (x1 : Int) (res : (zHp × (Int))), fX3_dropOldest_L12 fu v x1 = some res → zV 0 137 v → zR x1 → (∀ (w : zHp) (q : Int), res = (w, q) → zV 0 137 w → True → zX E 0 0 137 w 82 [none, none] []) → zX E 0 0 137 v 12 [some (zr 102), some (zi x1)] [] := by
  intro fu
  induction fu with
  | zero =>
    intro v _ res h
    cases h
  | succ fu ih =>
    intro v x1 res h hv Rx1 K1
    rw [fX3_dropOldest_L12.eq_2] at h
    refine z_iload_n C (zd tX3_dropOldest 8 rfl) rfl ?_
    refine z_aload_n C (zd tX3_dropOldest 9 rfl) rfl ?_
    refine gf_3_4 C (lg_102 ho) zic_3 (zm zwd_322) (zd tX3_dropOldest 10 rfl) ?_
    refine z_icmp_ge (tgt := 82) C Rx1 (hv.1 _ _) (zd tX3_dropOldest 11 rfl) (by decide) h (fun h => ?_) (fun h => ?_)
    · refine z_sub (lo' := [none, none]) (zsub_n (zsub_n zsub_0)) ?_
      exact K1 _ _ (Option.some.inj h).symm hv trivial
    · refine z_aload_n C (zd tX3_dropOldest 12 rfl) rfl ?_
      refine gl_3_0 (t := 103) C (lg_102 ho) zic_3 (zm zwd_314) (vl_3_0 ho hv (lg_102 ho)) (zd tX3_dropOldest 13 rfl) ?_
      refine z_iload_n C (zd tX3_dropOldest 14 rfl) rfl ?_
      refine z_aload_n C (zd tX3_dropOldest 15 rfl) rfl ?_
      refine gl_3_0 (t := 103) C (lg_102 ho) zic_3 (zm zwd_314) (vl_3_0 ho hv (lg_102 ho)) (zd tX3_dropOldest 16 rfl) ?_
      refine z_iload_n C (zd tX3_dropOldest 17 rfl) rfl ?_
      refine z_iconst C (zd tX3_dropOldest 18 rfl) ?_
      refine z_iadd C (zd tX3_dropOldest 19 rfl) ?_
      obtain ⟨q3, h⟩ := zck_some h
      refine za_iald C (lg_103 ho) rfl (by decide) q3 (zd tX3_dropOldest 20 rfl) ?_
      obtain ⟨q4, h⟩ := zck_some h
      obtain ⟨v5, ev5, h⟩ := zb_some h
      have hv5 : zV 0 137 v5 := by rw [ev5]; exact hv.st (hv.1 _ _) (lg_103 ho).1 (Or.inr rfl)
      refine za_iast C (lg_103 ho) rfl (by decide) q4 ev5 (zd tX3_dropOldest 21 rfl) ?_
      refine z_aload_n C (zd tX3_dropOldest 22 rfl) rfl ?_
      refine gl_3_1 (t := 104) C (lg_102 ho) zic_3 (zm zwd_316) (vl_3_1 ho hv5 (lg_102 ho)) (zd tX3_dropOldest 23 rfl) ?_
      refine z_iload_n C (zd tX3_dropOldest 24 rfl) rfl ?_
      refine z_aload_n C (zd tX3_dropOldest 25 rfl) rfl ?_
      refine gl_3_1 (t := 104) C (lg_102 ho) zic_3 (zm zwd_316) (vl_3_1 ho hv5 (lg_102 ho)) (zd tX3_dropOldest 26 rfl) ?_
      refine z_iload_n C (zd tX3_dropOldest 27 rfl) rfl ?_
      refine z_iconst C (zd tX3_dropOldest 28 rfl) ?_
      refine z_iadd C (zd tX3_dropOldest 29 rfl) ?_
      obtain ⟨q6, h⟩ := zck_some h
      refine za_iald C (lg_104 ho) rfl (by decide) q6 (zd tX3_dropOldest 30 rfl) ?_
      obtain ⟨q7, h⟩ := zck_some h
      obtain ⟨v8, ev8, h⟩ := zb_some h
      have hv8 : zV 0 137 v8 := by rw [ev8]; exact hv5.st (hv5.1 _ _) (lg_104 ho).1 (Or.inr rfl)
      refine za_iast C (lg_104 ho) rfl (by decide) q7 ev8 (zd tX3_dropOldest 31 rfl) ?_
      refine z_aload_n C (zd tX3_dropOldest 32 rfl) rfl ?_
      refine gl_3_2 (t := 105) C (lg_102 ho) zic_3 (zm zwd_318) (vl_3_2 ho hv8 (lg_102 ho)) (zd tX3_dropOldest 33 rfl) ?_
      refine z_iload_n C (zd tX3_dropOldest 34 rfl) rfl ?_
      refine z_aload_n C (zd tX3_dropOldest 35 rfl) rfl ?_
      refine gl_3_2 (t := 105) C (lg_102 ho) zic_3 (zm zwd_318) (vl_3_2 ho hv8 (lg_102 ho)) (zd tX3_dropOldest 36 rfl) ?_
      refine z_iload_n C (zd tX3_dropOldest 37 rfl) rfl ?_
      refine z_iconst C (zd tX3_dropOldest 38 rfl) ?_
      refine z_iadd C (zd tX3_dropOldest 39 rfl) ?_
      obtain ⟨q9, h⟩ := zck_some h
      refine za_iald C (lg_105 ho) rfl (by decide) q9 (zd tX3_dropOldest 40 rfl) ?_
      obtain ⟨q10, h⟩ := zck_some h
      obtain ⟨v11, ev11, h⟩ := zb_some h
      have hv11 : zV 0 137 v11 := by rw [ev11]; exact hv8.st (hv8.1 _ _) (lg_105 ho).1 (Or.inr rfl)
      refine za_iast C (lg_105 ho) rfl (by decide) q10 ev11 (zd tX3_dropOldest 41 rfl) ?_
      refine z_aload_n C (zd tX3_dropOldest 42 rfl) rfl ?_
      refine gl_3_3 (t := 106) C (lg_102 ho) zic_3 (zm zwd_320) (vl_3_3 ho hv11 (lg_102 ho)) (zd tX3_dropOldest 43 rfl) ?_
      refine z_iload_n C (zd tX3_dropOldest 44 rfl) rfl ?_
      refine z_aload_n C (zd tX3_dropOldest 45 rfl) rfl ?_
      refine gl_3_3 (t := 106) C (lg_102 ho) zic_3 (zm zwd_320) (vl_3_3 ho hv11 (lg_102 ho)) (zd tX3_dropOldest 46 rfl) ?_
      refine z_iload_n C (zd tX3_dropOldest 47 rfl) rfl ?_
      refine z_iconst C (zd tX3_dropOldest 48 rfl) ?_
      refine z_iadd C (zd tX3_dropOldest 49 rfl) ?_
      obtain ⟨q12, h⟩ := zck_some h
      refine za_zald C (lg_106 ho) rfl (by decide) q12 (zd tX3_dropOldest 50 rfl) ?_
      obtain ⟨q13, h⟩ := zck_some h
      obtain ⟨q14, h⟩ := zck_some h
      obtain ⟨v15, ev15, h⟩ := zb_some h
      have hv15 : zV 0 137 v15 := by rw [ev15]; exact hv11.st (hv11.1 _ _) (lg_106 ho).1 (Or.inr rfl)
      refine za_zast C (lg_106 ho) rfl (by decide) q13 q14 ev15 (zd tX3_dropOldest 51 rfl) ?_
      obtain ⟨t16, et16, Rt16, h⟩ := zn_some h
      refine z_iincE C (zd tX3_dropOldest 52 rfl) (by rw [hN]; decide) rfl et16 ?_
      refine z_goto (tgt := 12) C (zd tX3_dropOldest 53 rfl) (by decide) ?_
      refine z_sub (lo' := [some (zr 102), some (zi t16)]) (zsub_s (zsub_s zsub_0)) ?_
      exact ih v15 t16 _ h hv15 Rt16 K1
set_option maxRecDepth 100000 in
set_option maxHeartbeats 4000000 in
theorem qX3_dropOldest (l : Launch) (D : va_G) (ids : Nat → ClassId) (b : Nat)  {v v' : zHp} {r' : Int} (hv : zV 0 137 v) (h : fX3_dropOldest v = some (v', r')) : zCT l yX3_dropOldest vsX3_dropOldest rmX3_dropOldest D ids b 0 False 137 [zr 102] v 137 (zV 0 137 v') none v' 0 0 := by
  refine zMet (own := RX3) (by decide +kernel) (show vsX3_dropOldest = _ from rfl) (Nat.le_of_ble_eq_true rfl) rfl ?_
  intro E hl hRm hD hids hb ho hz hN C hname ret
  subst hl hD hids hb
  unfold fX3_dropOldest at h
  refine z_aload_n C (zd tX3_dropOldest 0 rfl) rfl ?_
  refine z_dup C (zd tX3_dropOldest 1 rfl) ?_
  refine gf_3_4 C (lg_102 ho) zic_3 (zm zwd_322) (zd tX3_dropOldest 2 rfl) ?_
  refine z_iconst C (zd tX3_dropOldest 3 rfl) ?_
  refine z_isub C (zd tX3_dropOldest 4 rfl) ?_
  obtain ⟨t1, et1, Rt1, h⟩ := zn_some h
  refine z_n0 (congrArg zI et1.symm) ?_
  obtain ⟨v2, ev2, h⟩ := zb_some h
  have hv2 : zV 0 137 v2 := by rw [ev2]; exact hv.st Rt1 (lg_102 ho).1 (Or.inr rfl)
  refine pf_3_4 C (lg_102 ho) zic_3 (zm zwd_322) ev2 (zd tX3_dropOldest 5 rfl) ?_
  refine z_iconst C (zd tX3_dropOldest 6 rfl) ?_
  refine z_istore_n C (zd tX3_dropOldest 7 rfl) (by rw [hN]; decide) ?_
  refine z_sub (lo' := [some (zr 102), some (zi 0)]) (zsub_s (zsub_s zsub_0)) ?_
  obtain ⟨v17, w18, lv17, h⟩ := zl_some h
  refine bX3_dropOldest_L12 C hN ho hz hRm zFU v2 0 _ lv17 hv2 (zR_c 0 rfl) (fun w1 q1 e1 hv17 Rw18 => ?_)
  obtain ⟨rfl, rfl⟩ := zpp e1
  obtain ⟨rfl, rfl⟩ := zpi h
  exact ret.2.1 _ _ hv17 rfl rfl (zd tX3_dropOldest 54 rfl)
noncomputable def vsX3_keep : List Cond := .code yX3_keep cX3_keep 5 none :: zbig
abbrev rmX3_keep : Room := { frames := 1, cells := 0, slots := 0, locals := 21 }
theorem pX3_keep : yX3_keep.cls = RX3 ∧ yX3_keep.cls ≠ "java/lang/invoke/MethodHandle" ∧ yX3_keep.cls ≠ "java/lang/invoke/VarHandle" ∧ (parseMethodDescriptor yX3_keep.desc).map (fun d => d.parameters.length) = some 4 := by decide +kernel
set_option maxRecDepth 100000 in
set_option maxHeartbeats 4000000 in
theorem jX3_keep_J13 {E : zE} (C : zC E 137 cX3_keep RX3 vsX3_keep) (hN : zEN E = 5) (ho : zEo E = 0) (hz : zEz E = False) (hRm : zER E = rmX3_keep) {v' : zHp} {r' : Int} (ret : zRet E cX3_keep 0 0 137 none (zV 0 137 v') none v') (v : zHp) (x1 : Int) (x2 : Int) (x3 : Int) (x4 : Int) (h : fX3_keep_J13 v x1 x2 x3 x4 = some (v', r')) (hv : zV 0 137 v) (Rx1 : zR x1) (Rx2 : zR x2) (Rx3 : zR x3) (Rx4 : zR x4) : zX E 0 0 137 v 13 [some (zr 102), some (zi x1), some (zi x2), some (zi x3), some (zi x4)] [] := by
  unfold fX3_keep_J13 at h
  refine z_aload_n C (zd tX3_keep 6 rfl) rfl ?_
  refine gl_3_0 (t := 103) C (lg_102 ho) zic_3 (zm zwd_314) (vl_3_0 ho hv (lg_102 ho)) (zd tX3_keep 7 rfl) ?_
  refine z_aload_n C (zd tX3_keep 8 rfl) rfl ?_
  refine gf_3_4 C (lg_102 ho) zic_3 (zm zwd_322) (zd tX3_keep 9 rfl) ?_
  refine z_iload_n C (zd tX3_keep 10 rfl) rfl ?_
  obtain ⟨q1, h⟩ := zck_some h
  obtain ⟨v2, ev2, h⟩ := zb_some h
  have hv2 : zV 0 137 v2 := by rw [ev2]; exact hv.st Rx1 (lg_103 ho).1 (Or.inr rfl)
  refine za_iast C (lg_103 ho) rfl (by decide) q1 ev2 (zd tX3_keep 11 rfl) ?_
  refine z_aload_n C (zd tX3_keep 12 rfl) rfl ?_
  refine gl_3_1 (t := 104) C (lg_102 ho) zic_3 (zm zwd_316) (vl_3_1 ho hv2 (lg_102 ho)) (zd tX3_keep 13 rfl) ?_
  refine z_aload_n C (zd tX3_keep 14 rfl) rfl ?_
  refine gf_3_4 C (lg_102 ho) zic_3 (zm zwd_322) (zd tX3_keep 15 rfl) ?_
  refine z_iload_n C (zd tX3_keep 16 rfl) rfl ?_
  obtain ⟨q3, h⟩ := zck_some h
  obtain ⟨v4, ev4, h⟩ := zb_some h
  have hv4 : zV 0 137 v4 := by rw [ev4]; exact hv2.st Rx2 (lg_104 ho).1 (Or.inr rfl)
  refine za_iast C (lg_104 ho) rfl (by decide) q3 ev4 (zd tX3_keep 17 rfl) ?_
  refine z_aload_n C (zd tX3_keep 18 rfl) rfl ?_
  refine gl_3_2 (t := 105) C (lg_102 ho) zic_3 (zm zwd_318) (vl_3_2 ho hv4 (lg_102 ho)) (zd tX3_keep 19 rfl) ?_
  refine z_aload_n C (zd tX3_keep 20 rfl) rfl ?_
  refine gf_3_4 C (lg_102 ho) zic_3 (zm zwd_322) (zd tX3_keep 21 rfl) ?_
  refine z_iload_n C (zd tX3_keep 22 rfl) rfl ?_
  obtain ⟨q5, h⟩ := zck_some h
  obtain ⟨v6, ev6, h⟩ := zb_some h
  have hv6 : zV 0 137 v6 := by rw [ev6]; exact hv4.st Rx3 (lg_105 ho).1 (Or.inr rfl)
  refine za_iast C (lg_105 ho) rfl (by decide) q5 ev6 (zd tX3_keep 23 rfl) ?_
  refine z_aload_n C (zd tX3_keep 24 rfl) rfl ?_
  refine gl_3_3 (t := 106) C (lg_102 ho) zic_3 (zm zwd_320) (vl_3_3 ho hv6 (lg_102 ho)) (zd tX3_keep 25 rfl) ?_
  refine z_aload_n C (zd tX3_keep 26 rfl) rfl ?_
  refine gf_3_4 C (lg_102 ho) zic_3 (zm zwd_322) (zd tX3_keep 27 rfl) ?_
  refine z_iload C (zd tX3_keep 28 rfl) rfl ?_
  obtain ⟨q7, h⟩ := zck_some h
  obtain ⟨q8, h⟩ := zck_some h
  obtain ⟨v9, ev9, h⟩ := zb_some h
  have hv9 : zV 0 137 v9 := by rw [ev9]; exact hv6.st Rx4 (lg_106 ho).1 (Or.inr rfl)
  refine za_zast C (lg_106 ho) rfl (by decide) q7 q8 ev9 (zd tX3_keep 29 rfl) ?_
  refine z_aload_n C (zd tX3_keep 30 rfl) rfl ?_
  refine z_dup C (zd tX3_keep 31 rfl) ?_
  refine gf_3_4 C (lg_102 ho) zic_3 (zm zwd_322) (zd tX3_keep 32 rfl) ?_
  refine z_iconst C (zd tX3_keep 33 rfl) ?_
  refine z_iadd C (zd tX3_keep 34 rfl) ?_
  obtain ⟨t10, et10, Rt10, h⟩ := zn_some h
  refine z_n0 (congrArg zI et10.symm) ?_
  obtain ⟨v11, ev11, h⟩ := zb_some h
  have hv11 : zV 0 137 v11 := by rw [ev11]; exact hv9.st Rt10 (lg_102 ho).1 (Or.inr rfl)
  refine pf_3_4 C (lg_102 ho) zic_3 (zm zwd_322) ev11 (zd tX3_keep 35 rfl) ?_
  obtain ⟨rfl, rfl⟩ := zpi h
  exact ret.2.1 _ _ hv11 rfl rfl (zd tX3_keep 36 rfl)
set_option maxRecDepth 100000 in
set_option maxHeartbeats 4000000 in
theorem qX3_keep (l : Launch) (D : va_G) (ids : Nat → ClassId) (b : Nat) {x1 : Int} (Rx1 : zR x1) {x2 : Int} (Rx2 : zR x2) {x3 : Int} (Rx3 : zR x3) {x4 : Int} (Rx4 : zR x4) {v v' : zHp} {r' : Int} (hv : zV 0 137 v) (h : fX3_keep v x1 x2 x3 x4 = some (v', r')) : zCT l yX3_keep vsX3_keep rmX3_keep D ids b 0 False 137 [zr 102, zi x1, zi x2, zi x3, zi x4] v 137 (zV 0 137 v') none v' 0 0 := by
  refine zMet (own := RX3) (by decide +kernel) (show vsX3_keep = _ from rfl) (Nat.le_of_ble_eq_true rfl) rfl ?_
  intro E hl hRm hD hids hb ho hz hN C hname ret
  subst hl hD hids hb
  unfold fX3_keep at h
  refine z_aload_n C (zd tX3_keep 0 rfl) rfl ?_
  refine gf_3_4 C (lg_102 ho) zic_3 (zm zwd_322) (zd tX3_keep 1 rfl) ?_
  refine z_bipush C (by decide) (zd tX3_keep 2 rfl) ?_
  refine z_icmp_ne (tgt := 13) C (hv.1 _ _) (zR_c 16 rfl) (zd tX3_keep 3 rfl) (by decide) h (fun h => ?_) (fun h => ?_)
  · refine z_sub (lo' := [some (zr 102), some (zi x1), some (zi x2), some (zi x3), some (zi x4)]) (zsub_s (zsub_s (zsub_s (zsub_s (zsub_s zsub_0))))) ?_
    exact jX3_keep_J13 C hN ho hz hRm ret v x1 x2 x3 x4 h hv Rx1 Rx2 Rx3 Rx4
  · refine z_aload_n C (zd tX3_keep 4 rfl) rfl ?_
    obtain ⟨v12, r13, cv12, h⟩ := zcl_some h
    refine zc_V C ho hz hRm (qX3_dropOldest _ _ _ _ hv cv12) (lg_102 ho) (by decide) rfl (zgV zwd_652 zwd_654 zws_11 zwd_10 zwd_655) rfl pX3_dropOldest rfl ⟨rfl, rfl⟩ ⟨Nat.le_of_ble_eq_true rfl, Nat.le_of_ble_eq_true rfl⟩ [] rfl (Nat.le_of_ble_eq_true rfl) (zd tX3_keep 5 rfl) [] rfl (fun p14 => ?_)
    refine z_sub (lo' := [some (zr 102), some (zi x1), some (zi x2), some (zi x3), some (zi x4)]) (zsub_s (zsub_s (zsub_s (zsub_s (zsub_s zsub_0))))) ?_
    exact jX3_keep_J13 C hN ho hz hRm ret v12 x1 x2 x3 x4 h p14 Rx1 Rx2 Rx3 Rx4
noncomputable def vsX11_punch : List Cond := .code yX11_punch cX11_punch 7 (some .int) :: zbig
abbrev rmX11_punch : Room := { frames := 3, cells := 0, slots := 0, locals := 69 }
theorem pX11_punch : yX11_punch.cls = RX11 ∧ yX11_punch.cls ≠ "java/lang/invoke/MethodHandle" ∧ yX11_punch.cls ≠ "java/lang/invoke/VarHandle" ∧ (parseMethodDescriptor yX11_punch.desc).map (fun d => d.parameters.length) = some 5 := by decide +kernel
set_option maxRecDepth 100000 in
set_option maxHeartbeats 4000000 in
theorem qX11_punch (l : Launch) (D : va_G) (ids : Nat → ClassId) (b : Nat) {x1 : Int} (Rx1 : zR x1) {x2 : Int} (Rx2 : zR x2) {x3 : Int} (Rx3 : zR x3) {x4 : Int} (Rx4 : zR x4) {x5 : Int} (Rx5 : zR x5) {v v' : zHp} {r' : Int} (hv : zV 0 137 v) (h : fX11_punch v x1 x2 x3 x4 x5 = some (v', r')) : zCT l yX11_punch vsX11_punch rmX11_punch D ids b 0 False 137 [zr 0, zi x1, zi x2, zi x3, zi x4, zi x5] v 137 (zV 0 137 v' ∧ zR r') (some (zi r')) v' 0 0 := by
  refine zMet (own := RX11) (by decide +kernel) (show vsX11_punch = _ from rfl) (Nat.le_of_ble_eq_true rfl) rfl ?_
  intro E hl hRm hD hids hb ho hz hN C hname ret
  subst hl hD hids hb
  unfold fX11_punch at h
  refine z_aload_n C (zd tX11_punch 0 rfl) rfl ?_
  refine z_iload_n C (zd tX11_punch 1 rfl) rfl ?_
  refine z_iload_n C (zd tX11_punch 2 rfl) rfl ?_
  refine z_iload_n C (zd tX11_punch 3 rfl) rfl ?_
  refine z_iload C (zd tX11_punch 4 rfl) rfl ?_
  refine z_iload C (zd tX11_punch 5 rfl) rfl ?_
  obtain ⟨v1, r2, cv1, h⟩ := zcl_some h
  refine zc_V C ho hz hRm (qX11_freeMoment _ _ _ _ Rx1 Rx2 Rx3 Rx4 Rx5 hv cv1) (lg_0 ho) (by decide) rfl (zgV zwd_629 zwd_631 zws_10 zwd_1 zwd_632) rfl pX11_freeMoment rfl ⟨rfl, rfl⟩ ⟨Nat.le_of_ble_eq_true rfl, Nat.le_of_ble_eq_true rfl⟩ [] rfl (Nat.le_of_ble_eq_true rfl) (zd tX11_punch 6 rfl) [zi r2] rfl (fun p3 => ?_)
  refine z_istore C (zd tX11_punch 7 rfl) (by rw [hN]; decide) ?_
  refine z_iload C (zd tX11_punch 8 rfl) rfl ?_
  refine z_iconst C (zd tX11_punch 9 rfl) ?_
  refine z_icmp_ne (tgt := 21) C p3.2 (zR_c (-1) rfl) (zd tX11_punch 10 rfl) (by decide) h (fun h => ?_) (fun h => ?_)
  · refine z_aload_n C (zd tX11_punch 13 rfl) rfl ?_
    refine gl_11_4 (t := 28) C (lg_0 ho) zic_11 (zm zwd_404) (vl_11_4 ho p3.1 (lg_0 ho)) (zd tX11_punch 14 rfl) ?_
    refine z_iload_n C (zd tX11_punch 15 rfl) rfl ?_
    obtain ⟨q4, h⟩ := zck_some h
    obtain ⟨u5, eu5, h⟩ := zb_some h
    have gu5 := ge_Card ho (lg_28 ho) q4 eu5
    refine ra_Card C ho p3.1 (lg_28 ho) q4 eu5 (zd tX11_punch 16 rfl) ?_
    refine z_iload C (zd tX11_punch 17 rfl) rfl ?_
    refine z_iload_n C (zd tX11_punch 18 rfl) rfl ?_
    obtain ⟨v6, r7, cv6, h⟩ := zcl_some h
    refine zc_V C ho hz hRm (qX1_add _ _ _ _ gu5.1 p3.2 Rx2 p3.1 cv6) gu5 (by decide) rfl (zgV zwd_644 zwd_645 zwd_646 zwd_7 zwd_647) rfl pX1_add rfl ⟨rfl, rfl⟩ ⟨Nat.le_of_ble_eq_true rfl, Nat.le_of_ble_eq_true rfl⟩ [] rfl (Nat.le_of_ble_eq_true rfl) (zd tX11_punch 19 rfl) [] rfl (fun p8 => ?_)
    refine z_aload_n C (zd tX11_punch 20 rfl) rfl ?_
    refine gl_11_5 (t := 29) C (lg_0 ho) zic_11 (zm zwd_405) (vl_11_5 ho p8 (lg_0 ho)) (zd tX11_punch 21 rfl) ?_
    refine z_iload_n C (zd tX11_punch 22 rfl) rfl ?_
    obtain ⟨q9, h⟩ := zck_some h
    obtain ⟨u10, eu10, h⟩ := zb_some h
    have gu10 := ge_Sheet ho (lg_29 ho) q9 eu10
    refine ra_Sheet C ho p8 (lg_29 ho) q9 eu10 (zd tX11_punch 23 rfl) ?_
    refine z_iconst C (zd tX11_punch 24 rfl) ?_
    obtain ⟨v11, ev11, h⟩ := zb_some h
    have hv11 : zV 0 137 v11 := by rw [ev11]; exact p8.st (zR_c 1 rfl) gu10.1 (Or.inr rfl)
    refine pf_8_0 C gu10 zic_8 (zm zwd_257) (by decide) ev11 (zd tX11_punch 25 rfl) ?_
    refine z_aload_n C (zd tX11_punch 26 rfl) rfl ?_
    refine gl_11_6 (t := 102) C (lg_0 ho) zic_11 (zm zwd_406) (vl_11_6 ho hv11 (lg_0 ho)) (zd tX11_punch 27 rfl) ?_
    refine z_iload_n C (zd tX11_punch 28 rfl) rfl ?_
    refine z_iload C (zd tX11_punch 29 rfl) rfl ?_
    refine z_iload_n C (zd tX11_punch 30 rfl) rfl ?_
    refine z_iconst C (zd tX11_punch 31 rfl) ?_
    obtain ⟨v12, r13, cv12, h⟩ := zcl_some h
    refine zc_V C ho hz hRm (qX3_keep _ _ _ _ Rx1 p3.2 Rx2 (zR_c 1 rfl) hv11 cv12) (lg_102 ho) (by decide) rfl (zgV zwd_648 zwd_649 zwd_650 zwd_10 zwd_651) rfl pX3_keep rfl ⟨rfl, rfl⟩ ⟨Nat.le_of_ble_eq_true rfl, Nat.le_of_ble_eq_true rfl⟩ [] rfl (Nat.le_of_ble_eq_true rfl) (zd tX11_punch 32 rfl) [] rfl (fun p14 => ?_)
    refine z_aload_n C (zd tX11_punch 33 rfl) rfl ?_
    refine gl_11_4 (t := 28) C (lg_0 ho) zic_11 (zm zwd_404) (vl_11_4 ho p14 (lg_0 ho)) (zd tX11_punch 34 rfl) ?_
    refine z_iload_n C (zd tX11_punch 35 rfl) rfl ?_
    obtain ⟨q15, h⟩ := zck_some h
    obtain ⟨u16, eu16, h⟩ := zb_some h
    have gu16 := ge_Card ho (lg_28 ho) q15 eu16
    refine ra_Card C ho p14 (lg_28 ho) q15 eu16 (zd tX11_punch 36 rfl) ?_
    refine gf_1_2 C gu16 zic_1 (zm zwd_222) (zd tX11_punch 37 rfl) ?_
    obtain ⟨rfl, rfl⟩ := zpi h
    exact ret.1 _ _ _ _ ⟨p14, (p14.1 _ _)⟩ rfl rfl rfl (zd tX11_punch 38 rfl)
  · refine z_iconst C (zd tX11_punch 11 rfl) ?_
    obtain ⟨rfl, rfl⟩ := zpi h
    exact ret.1 _ _ _ _ ⟨p3.1, (zR_c (-1) rfl)⟩ rfl rfl rfl (zd tX11_punch 12 rfl)
noncomputable def vsX11_punched : List Cond := .code yX11_punched cX11_punched 5 (some .int) :: zbig
abbrev rmX11_punched : Room := { frames := 7, cells := 0, slots := 0, locals := 186 }
theorem pX11_punched : yX11_punched.cls = RX11 ∧ yX11_punched.cls ≠ "java/lang/invoke/MethodHandle" ∧ yX11_punched.cls ≠ "java/lang/invoke/VarHandle" ∧ (parseMethodDescriptor yX11_punched.desc).map (fun d => d.parameters.length) = some 3 := by decide +kernel
set_option maxRecDepth 100000 in
set_option maxHeartbeats 4000000 in
theorem qX11_punched (l : Launch) (D : va_G) (ids : Nat → ClassId) (b : Nat) {x1 : Int} (Rx1 : zR x1) {x2 : Int} (Rx2 : zR x2) {x3 : Int} (Rx3 : zR x3) {v v' : zHp} {r' : Int} (hv : zV 0 137 v) (h : fX11_punched v x1 x2 x3 = some (v', r')) : zCT l yX11_punched vsX11_punched rmX11_punched D ids b 0 False 137 [zr 0, zi x1, zi x2, zi x3] v 137 (zV 0 137 v' ∧ zR r') (some (zi r')) v' 0 0 := by
  refine zMet (own := RX11) (by decide +kernel) (show vsX11_punched = _ from rfl) (Nat.le_of_ble_eq_true rfl) rfl ?_
  intro E hl hRm hD hids hb ho hz hN C hname ret
  subst hl hD hids hb
  unfold fX11_punched at h
  refine z_iload_n C (zd tX11_punched 0 rfl) rfl ?_
  obtain ⟨v1, r2, cv1, h⟩ := zcl_some h
  refine zc_S C ho hz hRm (qX11_isWorker _ _ _ _ Rx1 hv cv1) (zgS zwd_633 zwd_634 zwd_1 zwd_635) rfl pX11_isWorker rfl ⟨rfl, rfl⟩ ⟨Nat.le_of_ble_eq_true rfl, Nat.le_of_ble_eq_true rfl⟩ [] rfl (Nat.le_of_ble_eq_true rfl) (zd tX11_punched 1 rfl) [zi r2] rfl (fun p3 => ?_)
  refine z_if_ne (tgt := 9) C p3.2 (zd tX11_punched 2 rfl) (by decide) h (fun h => ?_) (fun h => ?_)
  · refine z_aload_n C (zd tX11_punched 5 rfl) rfl ?_
    refine gl_11_4 (t := 28) C (lg_0 ho) zic_11 (zm zwd_404) (vl_11_4 ho p3.1 (lg_0 ho)) (zd tX11_punched 6 rfl) ?_
    refine z_iload_n C (zd tX11_punched 7 rfl) rfl ?_
    obtain ⟨q4, h⟩ := zck_some h
    obtain ⟨u5, eu5, h⟩ := zb_some h
    have gu5 := ge_Card ho (lg_28 ho) q4 eu5
    refine ra_Card C ho p3.1 (lg_28 ho) q4 eu5 (zd tX11_punched 8 rfl) ?_
    refine z_astore C (zd tX11_punched 9 rfl) (by rw [hN]; decide) ?_
    refine z_iload_n C (zd tX11_punched 10 rfl) rfl ?_
    refine z_iconst C (zd tX11_punched 11 rfl) ?_
    refine z_icmp_ne (tgt := 28) C Rx2 (zR_c (-1) rfl) (zd tX11_punched 12 rfl) (by decide) h (fun h => ?_) (fun h => ?_)
    · refine z_iload_n C (zd tX11_punched 16 rfl) rfl ?_
      refine z_if_lt (tgt := 41) C Rx2 (zd tX11_punched 17 rfl) (by decide) h (fun h => ?_) (fun h => ?_)
      · refine z_iconst C (zd tX11_punched 22 rfl) ?_
        obtain ⟨rfl, rfl⟩ := zpi h
        exact ret.1 _ _ _ _ ⟨p3.1, (zR_c (-1) rfl)⟩ rfl rfl rfl (zd tX11_punched 23 rfl)
      · refine z_iload_n C (zd tX11_punched 18 rfl) rfl ?_
        refine z_aload C (zd tX11_punched 19 rfl) rfl ?_
        refine gf_1_2 C gu5 zic_1 (zm zwd_222) (zd tX11_punched 20 rfl) ?_
        refine z_icmp_lt (tgt := 43) C Rx2 (p3.1.1 _ _) (zd tX11_punched 21 rfl) (by decide) h (fun h => ?_) (fun h => ?_)
        · refine z_iload_n C (zd tX11_punched 24 rfl) rfl ?_
          by_cases c44_0 : x3 = 0
          · rw [if_pos c44_0] at h
            refine z_tblIn (tgt := 72) C Rx3 c44_0 (zd tX11_punched 25 rfl) (by decide) (by decide) rfl (by decide) ?_
            refine z_aload C (zd tX11_punched 26 rfl) rfl ?_
            refine gl_1_0 C gu5 zic_1 (zm zwd_217) (vl_1_0 ho p3.1 gu5) (zd tX11_punched 27 rfl) ?_
            refine z_iload_n C (zd tX11_punched 28 rfl) rfl ?_
            obtain ⟨q6, h⟩ := zck_some h
            refine za_iald C (lk_1_0 ho gu5) rfl (by decide) q6 (zd tX11_punched 29 rfl) ?_
            obtain ⟨rfl, rfl⟩ := zpi h
            exact ret.1 _ _ _ _ ⟨p3.1, (p3.1.1 _ _)⟩ rfl rfl rfl (zd tX11_punched 30 rfl)
          rw [if_neg c44_0] at h
          by_cases c44_1 : x3 = 1
          · rw [if_pos c44_1] at h
            refine z_tblIn (tgt := 80) C Rx3 c44_1 (zd tX11_punched 25 rfl) (by decide) (by decide) rfl (by decide) ?_
            refine z_aload C (zd tX11_punched 31 rfl) rfl ?_
            refine gl_1_1 C gu5 zic_1 (zm zwd_220) (vl_1_1 ho p3.1 gu5) (zd tX11_punched 32 rfl) ?_
            refine z_iload_n C (zd tX11_punched 33 rfl) rfl ?_
            obtain ⟨q7, h⟩ := zck_some h
            refine za_iald C (lk_1_1 ho gu5) rfl (by decide) q7 (zd tX11_punched 34 rfl) ?_
            obtain ⟨rfl, rfl⟩ := zpi h
            exact ret.1 _ _ _ _ ⟨p3.1, (p3.1.1 _ _)⟩ rfl rfl rfl (zd tX11_punched 35 rfl)
          rw [if_neg c44_1] at h
          by_cases c44_2 : x3 = 2
          · rw [if_pos c44_2] at h
            refine z_tblIn (tgt := 88) C Rx3 c44_2 (zd tX11_punched 25 rfl) (by decide) (by decide) rfl (by decide) ?_
            refine z_aload_n C (zd tX11_punched 36 rfl) rfl ?_
            refine z_iload_n C (zd tX11_punched 37 rfl) rfl ?_
            obtain ⟨v8, r9, cv8, h⟩ := zcl_some h
            refine zc_V C ho hz hRm (qX11_sheetOf _ _ _ _ Rx1 p3.1 cv8) (lg_0 ho) (by decide) rfl (zgV zwd_673 zwd_675 zws_12 zwd_1 zwd_676) rfl pX11_sheetOf rfl ⟨rfl, rfl⟩ ⟨Nat.le_of_ble_eq_true rfl, Nat.le_of_ble_eq_true rfl⟩ [] rfl (Nat.le_of_ble_eq_true rfl) (zd tX11_punched 38 rfl) [zr (r9).toNat] rfl (fun p10 => ?_)
            obtain ⟨u11, eu11, h⟩ := zb_some h
            have gu11 := kg_8 ho (show zK u11 = _ by rw [eu11]; exact p10.2.2)
            refine z_r0 eu11.symm ?_
            refine gl_8_1 C gu11 zic_8 (zm zwd_259) (vl_8_1 ho p10.1 gu11) (zd tX11_punched 39 rfl) ?_
            refine z_iload_n C (zd tX11_punched 40 rfl) rfl ?_
            obtain ⟨q12, h⟩ := zck_some h
            refine za_iald C (lk_8_1 ho gu11) rfl (by decide) q12 (zd tX11_punched 41 rfl) ?_
            obtain ⟨rfl, rfl⟩ := zpi h
            exact ret.1 _ _ _ _ ⟨p10.1, (p10.1.1 _ _)⟩ rfl rfl rfl (zd tX11_punched 42 rfl)
          rw [if_neg c44_2] at h
          refine z_tblOut (tgt := 99) C Rx3 (by omega) (zd tX11_punched 25 rfl) (by decide) ?_
          refine z_iconst C (zd tX11_punched 43 rfl) ?_
          obtain ⟨rfl, rfl⟩ := zpi h
          exact ret.1 _ _ _ _ ⟨p3.1, (zR_c (-1) rfl)⟩ rfl rfl rfl (zd tX11_punched 44 rfl)
        · refine z_iconst C (zd tX11_punched 22 rfl) ?_
          obtain ⟨rfl, rfl⟩ := zpi h
          exact ret.1 _ _ _ _ ⟨p3.1, (zR_c (-1) rfl)⟩ rfl rfl rfl (zd tX11_punched 23 rfl)
    · refine z_aload C (zd tX11_punched 13 rfl) rfl ?_
      refine gf_1_2 C gu5 zic_1 (zm zwd_222) (zd tX11_punched 14 rfl) ?_
      obtain ⟨rfl, rfl⟩ := zpi h
      exact ret.1 _ _ _ _ ⟨p3.1, (p3.1.1 _ _)⟩ rfl rfl rfl (zd tX11_punched 15 rfl)
  · refine z_iconst C (zd tX11_punched 3 rfl) ?_
    obtain ⟨rfl, rfl⟩ := zpi h
    exact ret.1 _ _ _ _ ⟨p3.1, (zR_c (-1) rfl)⟩ rfl rfl rfl (zd tX11_punched 4 rfl)
noncomputable def vsX2_sameAs : List Cond := .code yX2_sameAs cX2_sameAs 2 (some .boolean) :: zbig
abbrev rmX2_sameAs : Room := { frames := 0, cells := 0, slots := 0, locals := 0 }
theorem pX2_sameAs : yX2_sameAs.cls = RX2 ∧ yX2_sameAs.cls ≠ "java/lang/invoke/MethodHandle" ∧ yX2_sameAs.cls ≠ "java/lang/invoke/VarHandle" ∧ (parseMethodDescriptor yX2_sameAs.desc).map (fun d => d.parameters.length) = some 1 := by decide +kernel
set_option maxRecDepth 100000 in
set_option maxHeartbeats 4000000 in
theorem qX2_sameAs (l : Launch) (D : va_G) (ids : Nat → ClassId) (b : Nat) {a0 : Nat} (k0 : zK a0 = (2, 5)) {a1 : Nat} (k1 : zK a1 = (2, 5)) {v v' : zHp} {r' : Int} (hv : zV 0 137 v) (h : fX2_sameAs v a0 a1 = some (v', r')) : zCT l yX2_sameAs vsX2_sameAs rmX2_sameAs D ids b 0 False 137 [zr a0, zr a1] v 137 (zV 0 137 v' ∧ zR r') (some (zi r')) v' 0 0 := by
  refine zMet (own := RX2) (by decide +kernel) (show vsX2_sameAs = _ from rfl) (Nat.le_of_ble_eq_true rfl) rfl ?_
  intro E hl hRm hD hids hb ho hz hN C hname ret
  subst hl hD hids hb
  have ga0 := kg_2 ho k0
  have ga1 := kg_2 ho k1
  unfold fX2_sameAs at h
  refine z_aload_n C (zd tX2_sameAs 0 rfl) rfl ?_
  refine gf_2_0 C ga0 zic_2 (zm zwd_85) (zd tX2_sameAs 1 rfl) ?_
  refine z_aload_n C (zd tX2_sameAs 2 rfl) rfl ?_
  refine gf_2_0 C ga1 zic_2 (zm zwd_85) (zd tX2_sameAs 3 rfl) ?_
  refine z_icmp_ne (tgt := 37) C (hv.1 _ _) (hv.1 _ _) (zd tX2_sameAs 4 rfl) (by decide) h (fun h => ?_) (fun h => ?_)
  · refine z_iconst C (zd tX2_sameAs 17 rfl) ?_
    obtain ⟨rfl, rfl⟩ := zpi h
    exact ret.1 _ _ _ _ ⟨hv, (zR_c 0 rfl)⟩ rfl rfl (by decide) (zd tX2_sameAs 18 rfl)
  · refine z_aload_n C (zd tX2_sameAs 5 rfl) rfl ?_
    refine gf_2_1 C ga0 zic_2 (zm zwd_87) (zd tX2_sameAs 6 rfl) ?_
    refine z_aload_n C (zd tX2_sameAs 7 rfl) rfl ?_
    refine gf_2_1 C ga1 zic_2 (zm zwd_87) (zd tX2_sameAs 8 rfl) ?_
    refine z_icmp_ne (tgt := 37) C (hv.1 _ _) (hv.1 _ _) (zd tX2_sameAs 9 rfl) (by decide) h (fun h => ?_) (fun h => ?_)
    · refine z_iconst C (zd tX2_sameAs 17 rfl) ?_
      obtain ⟨rfl, rfl⟩ := zpi h
      exact ret.1 _ _ _ _ ⟨hv, (zR_c 0 rfl)⟩ rfl rfl (by decide) (zd tX2_sameAs 18 rfl)
    · refine z_aload_n C (zd tX2_sameAs 10 rfl) rfl ?_
      refine gf_2_2 C ga0 zic_2 (zm zwd_89) (zd tX2_sameAs 11 rfl) ?_
      refine z_aload_n C (zd tX2_sameAs 12 rfl) rfl ?_
      refine gf_2_2 C ga1 zic_2 (zm zwd_89) (zd tX2_sameAs 13 rfl) ?_
      refine z_icmp_ne (tgt := 37) C (hv.1 _ _) (hv.1 _ _) (zd tX2_sameAs 14 rfl) (by decide) h (fun h => ?_) (fun h => ?_)
      · refine z_iconst C (zd tX2_sameAs 17 rfl) ?_
        obtain ⟨rfl, rfl⟩ := zpi h
        exact ret.1 _ _ _ _ ⟨hv, (zR_c 0 rfl)⟩ rfl rfl (by decide) (zd tX2_sameAs 18 rfl)
      · refine z_iconst C (zd tX2_sameAs 15 rfl) ?_
        refine z_goto (tgt := 38) C (zd tX2_sameAs 16 rfl) (by decide) ?_
        obtain ⟨rfl, rfl⟩ := zpi h
        exact ret.1 _ _ _ _ ⟨hv, (zR_c 1 rfl)⟩ rfl rfl (by decide) (zd tX2_sameAs 18 rfl)
noncomputable def vsX8_forget : List Cond := .code yX8_forget cX8_forget 1 none :: zbig
abbrev rmX8_forget : Room := { frames := 0, cells := 0, slots := 0, locals := 0 }
theorem pX8_forget : yX8_forget.cls = RX8 ∧ yX8_forget.cls ≠ "java/lang/invoke/MethodHandle" ∧ yX8_forget.cls ≠ "java/lang/invoke/VarHandle" ∧ (parseMethodDescriptor yX8_forget.desc).map (fun d => d.parameters.length) = some 0 := by decide +kernel
set_option maxRecDepth 100000 in
set_option maxHeartbeats 4000000 in
theorem qX8_forget (l : Launch) (D : va_G) (ids : Nat → ClassId) (b : Nat) {a0 : Nat} (k0 : zK a0 = (8, 14)) {v v' : zHp} {r' : Int} (hv : zV 0 137 v) (h : fX8_forget v a0 = some (v', r')) : zCT l yX8_forget vsX8_forget rmX8_forget D ids b 0 False 137 [zr a0] v 137 (zV 0 137 v') none v' 0 0 := by
  refine zMet (own := RX8) (by decide +kernel) (show vsX8_forget = _ from rfl) (Nat.le_of_ble_eq_true rfl) rfl ?_
  intro E hl hRm hD hids hb ho hz hN C hname ret
  subst hl hD hids hb
  have ga0 := kg_8 ho k0
  unfold fX8_forget at h
  refine z_aload_n C (zd tX8_forget 0 rfl) rfl ?_
  refine z_iconst C (zd tX8_forget 1 rfl) ?_
  obtain ⟨v1, ev1, h⟩ := zb_some h
  have hv1 : zV 0 137 v1 := by rw [ev1]; exact hv.st (zR_c 1 rfl) ga0.1 (Or.inr rfl)
  refine pf_8_0 C ga0 zic_8 (zm zwd_256) (by decide) ev1 (zd tX8_forget 2 rfl) ?_
  refine z_aload_n C (zd tX8_forget 3 rfl) rfl ?_
  refine z_iconst C (zd tX8_forget 4 rfl) ?_
  obtain ⟨v2, ev2, h⟩ := zb_some h
  have hv2 : zV 0 137 v2 := by rw [ev2]; exact hv1.st (zR_c 0 rfl) ga0.1 (Or.inr rfl)
  refine pf_8_12 C ga0 zic_8 (zm zwd_277) ev2 (zd tX8_forget 5 rfl) ?_
  obtain ⟨rfl, rfl⟩ := zpi h
  exact ret.2.1 _ _ hv2 rfl rfl (zd tX8_forget 6 rfl)
noncomputable def vsX11_replaceRules : List Cond := .code yX11_replaceRules cX11_replaceRules 4 none :: zbig
abbrev rmX11_replaceRules : Room := { frames := 1, cells := 0, slots := 0, locals := 21 }
theorem pX11_replaceRules : yX11_replaceRules.cls = RX11 ∧ yX11_replaceRules.cls ≠ "java/lang/invoke/MethodHandle" ∧ yX11_replaceRules.cls ≠ "java/lang/invoke/VarHandle" ∧ (parseMethodDescriptor yX11_replaceRules.desc).map (fun d => d.parameters.length) = some 0 := by decide +kernel
set_option maxRecDepth 100000 in
set_option maxHeartbeats 4000000 in
theorem bX11_replaceRules_L61 {E : zE} (C : zC E 137 cX11_replaceRules RX11 vsX11_replaceRules) (hN : zEN E = 4) (ho : zEo E = 0) (hz : zEz E = False) (hRm : zER E = rmX11_replaceRules) : ∀ (fu : Nat) (v : zHp) (x1 : Int) (x3 : Int) (res : (zHp × (Int))), fX11_replaceRules_L61 fu v x1 x3 = some res → zV 0 137 v → zR x1 → zR x3 → (∀ (w : zHp) (q : Int), res = (w, q) → zV 0 137 w → True → zX E 0 0 137 w 95 [none, none, none, none] []) → zX E 0 0 137 v 61 [some (zr 0), some (zi x1), none, some (zi x3)] [] := by
  intro fu
  induction fu with
  | zero =>
    intro v _ _ res h
    cases h
  | succ fu ih =>
    intro v x1 x3 res h hv Rx1 Rx3 K1
    rw [fX11_replaceRules_L61.eq_2] at h
    refine z_iload_n C (zd tX11_replaceRules 31 rfl) rfl ?_
    refine z_iconst C (zd tX11_replaceRules 32 rfl) ?_
    refine z_icmp_ge (tgt := 95) C Rx3 (zR_c 4 rfl) (zd tX11_replaceRules 33 rfl) (by decide) h (fun h => ?_) (fun h => ?_)
    · refine z_sub (lo' := [none, none, none, none]) (zsub_n (zsub_n (zsub_n (zsub_n zsub_0)))) ?_
      exact K1 _ _ (Option.some.inj h).symm hv trivial
    · refine z_aload_n C (zd tX11_replaceRules 34 rfl) rfl ?_
      refine gl_11_5 (t := 29) C (lg_0 ho) zic_11 (zm zwd_405) (vl_11_5 ho hv (lg_0 ho)) (zd tX11_replaceRules 35 rfl) ?_
      refine z_iload_n C (zd tX11_replaceRules 36 rfl) rfl ?_
      obtain ⟨q18, h⟩ := zck_some h
      obtain ⟨u19, eu19, h⟩ := zb_some h
      have gu19 := ge_Sheet ho (lg_29 ho) q18 eu19
      refine ra_Sheet C ho hv (lg_29 ho) q18 eu19 (zd tX11_replaceRules 37 rfl) ?_
      obtain ⟨v20, r21, cv20, h⟩ := zcl_some h
      refine zc_V C ho hz hRm (qX8_forget _ _ _ _ gu19.1 hv cv20) gu19 (by decide) rfl (zgV zwd_592 zwd_593 zwd_594 zwd_8 zwd_595) rfl pX8_forget rfl ⟨rfl, rfl⟩ ⟨Nat.le_of_ble_eq_true rfl, Nat.le_of_ble_eq_true rfl⟩ [] rfl (Nat.le_of_ble_eq_true rfl) (zd tX11_replaceRules 38 rfl) [] rfl (fun p22 => ?_)
      refine z_iload_n C (zd tX11_replaceRules 39 rfl) rfl ?_
      refine z_if_eq (tgt := 89) C Rx1 (zd tX11_replaceRules 40 rfl) (by decide) h (fun h => ?_) (fun h => ?_)
      · obtain ⟨t23, et23, Rt23, h⟩ := zn_some h
        refine z_iincE C (zd tX11_replaceRules 47 rfl) (by rw [hN]; decide) rfl et23 ?_
        refine z_goto (tgt := 61) C (zd tX11_replaceRules 48 rfl) (by decide) ?_
        refine z_sub (lo' := [some (zr 0), some (zi x1), none, some (zi t23)]) (zsub_s (zsub_s (zsub_n (zsub_s zsub_0)))) ?_
        exact ih v20 x1 t23 _ h p22 Rx1 Rt23 K1
      · refine z_aload_n C (zd tX11_replaceRules 41 rfl) rfl ?_
        refine gl_11_4 (t := 28) C (lg_0 ho) zic_11 (zm zwd_404) (vl_11_4 ho p22 (lg_0 ho)) (zd tX11_replaceRules 42 rfl) ?_
        refine z_iload_n C (zd tX11_replaceRules 43 rfl) rfl ?_
        obtain ⟨q24, h⟩ := zck_some h
        obtain ⟨u25, eu25, h⟩ := zb_some h
        have gu25 := ge_Card ho (lg_28 ho) q24 eu25
        refine ra_Card C ho p22 (lg_28 ho) q24 eu25 (zd tX11_replaceRules 44 rfl) ?_
        refine z_iconst C (zd tX11_replaceRules 45 rfl) ?_
        obtain ⟨v26, ev26, h⟩ := zb_some h
        have hv26 : zV 0 137 v26 := by rw [ev26]; exact p22.st (zR_c 0 rfl) gu25.1 (Or.inr rfl)
        refine pf_1_2 C gu25 zic_1 (zm zwd_222) ev26 (zd tX11_replaceRules 46 rfl) ?_
        obtain ⟨t27, et27, Rt27, h⟩ := zn_some h
        refine z_iincE C (zd tX11_replaceRules 47 rfl) (by rw [hN]; decide) rfl et27 ?_
        refine z_goto (tgt := 61) C (zd tX11_replaceRules 48 rfl) (by decide) ?_
        refine z_sub (lo' := [some (zr 0), some (zi x1), none, some (zi t27)]) (zsub_s (zsub_s (zsub_n (zsub_s zsub_0)))) ?_
        exact ih v26 x1 t27 _ h hv26 Rx1 Rt27 K1
set_option maxRecDepth 100000 in
set_option maxHeartbeats 4000000 in
theorem jX11_replaceRules_J25 {E : zE} (C : zC E 137 cX11_replaceRules RX11 vsX11_replaceRules) (hN : zEN E = 4) (ho : zEo E = 0) (hz : zEz E = False) (hRm : zER E = rmX11_replaceRules) {v' : zHp} {r' : Int} (ret : zRet E cX11_replaceRules 0 0 137 none (zV 0 137 v') none v') (v : zHp) (s0 : Int) (h : fX11_replaceRules_J25 v s0 = some (v', r')) (hv : zV 0 137 v) (Rs0 : zR s0) : zX E 0 0 137 v 25 [some (zr 0), none, none, none] [zi s0] := by
  unfold fX11_replaceRules_J25 at h
  refine z_istore_n C (zd tX11_replaceRules 11 rfl) (by rw [hN]; decide) ?_
  refine z_aload_n C (zd tX11_replaceRules 12 rfl) rfl ?_
  obtain ⟨u8, eu8, h⟩ := zb_some h
  obtain ⟨q9, h⟩ := zck_some h
  have gu8 := kg_7 ho q9.2
  refine gl_11_2 C (lg_0 ho) zic_11 (zm zwd_402) (zdyn q9.1 eu8) (zd tX11_replaceRules 13 rfl) ?_
  refine z_astore_n C (zd tX11_replaceRules 14 rfl) (by rw [hN]; decide) ?_
  refine z_aload_n C (zd tX11_replaceRules 15 rfl) rfl ?_
  refine z_aload_n C (zd tX11_replaceRules 16 rfl) rfl ?_
  obtain ⟨u10, eu10, h⟩ := zb_some h
  obtain ⟨q11, h⟩ := zck_some h
  have gu10 := kg_7 ho q11.2
  refine gl_11_3 C (lg_0 ho) zic_11 (zm zwd_403) (zdyn q11.1 eu10) (zd tX11_replaceRules 17 rfl) ?_
  obtain ⟨v12, ev12, h⟩ := zb_some h
  have hv12 : zV 0 137 v12 := by rw [ev12]; exact hv.st (zR_ad (by rw [ho]; decide) (by decide) gu10) (lg_0 ho).1 (Or.inr rfl)
  refine pf_11_2 C (lg_0 ho) zic_11 (zm zwd_402) ev12 (zd tX11_replaceRules 18 rfl) ?_
  refine z_aload_n C (zd tX11_replaceRules 19 rfl) rfl ?_
  refine z_aload_n C (zd tX11_replaceRules 20 rfl) rfl ?_
  obtain ⟨v13, ev13, h⟩ := zb_some h
  have hv13 : zV 0 137 v13 := by rw [ev13]; exact hv12.st (zR_ad (by rw [ho]; decide) (by decide) gu8) (lg_0 ho).1 (Or.inr rfl)
  refine pf_11_3 C (lg_0 ho) zic_11 (zm zwd_403) ev13 (zd tX11_replaceRules 21 rfl) ?_
  refine z_aload_n C (zd tX11_replaceRules 22 rfl) rfl ?_
  refine gl_11_6 (t := 102) C (lg_0 ho) zic_11 (zm zwd_406) (vl_11_6 ho hv13 (lg_0 ho)) (zd tX11_replaceRules 23 rfl) ?_
  refine z_iconst C (zd tX11_replaceRules 24 rfl) ?_
  obtain ⟨v14, ev14, h⟩ := zb_some h
  have hv14 : zV 0 137 v14 := by rw [ev14]; exact hv13.st (zR_c 0 rfl) (lg_102 ho).1 (Or.inr rfl)
  refine pf_3_4 C (lg_102 ho) zic_3 (zm zwd_323) ev14 (zd tX11_replaceRules 25 rfl) ?_
  refine z_aload_n C (zd tX11_replaceRules 26 rfl) rfl ?_
  refine gl_11_8 (t := 110) C (lg_0 ho) zic_11 (zm zwd_408) (vl_11_8 ho hv14 (lg_0 ho)) (zd tX11_replaceRules 27 rfl) ?_
  obtain ⟨v15, r16, cv15, h⟩ := zcl_some h
  refine zc_V C ho hz hRm (qX8_forget _ _ _ _ (lg_110 ho).1 hv14 cv15) (lg_110 ho) (by decide) rfl (zgV zwd_592 zwd_593 zwd_594 zwd_8 zwd_595) rfl pX8_forget rfl ⟨rfl, rfl⟩ ⟨Nat.le_of_ble_eq_true rfl, Nat.le_of_ble_eq_true rfl⟩ [] rfl (Nat.le_of_ble_eq_true rfl) (zd tX11_replaceRules 28 rfl) [] rfl (fun p17 => ?_)
  refine z_iconst C (zd tX11_replaceRules 29 rfl) ?_
  refine z_istore_n C (zd tX11_replaceRules 30 rfl) (by rw [hN]; decide) ?_
  refine z_sub (lo' := [some (zr 0), some (zi s0), none, some (zi 0)]) (zsub_s (zsub_s (zsub_n (zsub_s zsub_0)))) ?_
  obtain ⟨v28, w29, lv28, h⟩ := zl_some h
  refine bX11_replaceRules_L61 C hN ho hz hRm zFU v15 s0 0 _ lv28 p17 Rs0 (zR_c 0 rfl) (fun w1 q1 e1 hv28 Rw29 => ?_)
  obtain ⟨rfl, rfl⟩ := zpp e1
  obtain ⟨rfl, rfl⟩ := zpi h
  exact ret.2.1 _ _ hv28 rfl rfl (zd tX11_replaceRules 49 rfl)
set_option maxRecDepth 100000 in
set_option maxHeartbeats 4000000 in
theorem qX11_replaceRules (l : Launch) (D : va_G) (ids : Nat → ClassId) (b : Nat)  {v v' : zHp} {r' : Int} (hv : zV 0 137 v) (h : fX11_replaceRules v = some (v', r')) : zCT l yX11_replaceRules vsX11_replaceRules rmX11_replaceRules D ids b 0 False 137 [zr 0] v 137 (zV 0 137 v') none v' 0 0 := by
  refine zMet (own := RX11) (by decide +kernel) (show vsX11_replaceRules = _ from rfl) (Nat.le_of_ble_eq_true rfl) rfl ?_
  intro E hl hRm hD hids hb ho hz hN C hname ret
  subst hl hD hids hb
  unfold fX11_replaceRules at h
  refine z_aload_n C (zd tX11_replaceRules 0 rfl) rfl ?_
  obtain ⟨u1, eu1, h⟩ := zb_some h
  obtain ⟨q2, h⟩ := zck_some h
  have gu1 := kg_7 ho q2.2
  refine gl_11_2 C (lg_0 ho) zic_11 (zm zwd_402) (zdyn q2.1 eu1) (zd tX11_replaceRules 1 rfl) ?_
  refine gl_7_0 C gu1 zic_7 (zm zwd_151) (vl_7_0 ho hv gu1) (zd tX11_replaceRules 2 rfl) ?_
  refine z_aload_n C (zd tX11_replaceRules 3 rfl) rfl ?_
  obtain ⟨u3, eu3, h⟩ := zb_some h
  obtain ⟨q4, h⟩ := zck_some h
  have gu3 := kg_7 ho q4.2
  refine gl_11_3 C (lg_0 ho) zic_11 (zm zwd_403) (zdyn q4.1 eu3) (zd tX11_replaceRules 4 rfl) ?_
  refine gl_7_0 C gu3 zic_7 (zm zwd_151) (vl_7_0 ho hv gu3) (zd tX11_replaceRules 5 rfl) ?_
  obtain ⟨v5, r6, cv5, h⟩ := zcl_some h
  refine zc_V C ho hz hRm (qX2_sameAs _ _ _ _ (lk_7_0 ho gu1).1 (lk_7_0 ho gu3).1 hv cv5) (lk_7_0 ho gu1) (by decide) rfl (zgV zwd_588 zwd_589 zwd_590 zwd_5 zwd_591) rfl pX2_sameAs rfl ⟨rfl, rfl⟩ ⟨Nat.le_of_ble_eq_true rfl, Nat.le_of_ble_eq_true rfl⟩ [] rfl (Nat.le_of_ble_eq_true rfl) (zd tX11_replaceRules 6 rfl) [zi r6] rfl (fun p7 => ?_)
  refine z_if_ne (tgt := 24) C p7.2 (zd tX11_replaceRules 7 rfl) (by decide) h (fun h => ?_) (fun h => ?_)
  · refine z_iconst C (zd tX11_replaceRules 10 rfl) ?_
    refine z_sub (lo' := [some (zr 0), none, none, none]) (zsub_s (zsub_n (zsub_n (zsub_n zsub_0)))) ?_
    exact jX11_replaceRules_J25 C hN ho hz hRm ret v5 0 h p7.1 (zR_c 0 rfl)
  · refine z_iconst C (zd tX11_replaceRules 8 rfl) ?_
    refine z_goto (tgt := 25) C (zd tX11_replaceRules 9 rfl) (by decide) ?_
    refine z_sub (lo' := [some (zr 0), none, none, none]) (zsub_s (zsub_n (zsub_n (zsub_n zsub_0)))) ?_
    exact jX11_replaceRules_J25 C hN ho hz hRm ret v5 1 h p7.1 (zR_c 1 rfl)
noncomputable def vsX6_refuse : List Cond := .code yX6_refuse cX6_refuse 3 none :: zbig
abbrev rmX6_refuse : Room := { frames := 0, cells := 0, slots := 0, locals := 0 }
theorem pX6_refuse : yX6_refuse.cls = RX6 ∧ yX6_refuse.cls ≠ "java/lang/invoke/MethodHandle" ∧ yX6_refuse.cls ≠ "java/lang/invoke/VarHandle" ∧ (parseMethodDescriptor yX6_refuse.desc).map (fun d => d.parameters.length) = some 2 := by decide +kernel
set_option maxRecDepth 100000 in
set_option maxHeartbeats 4000000 in
theorem qX6_refuse (l : Launch) (D : va_G) (ids : Nat → ClassId) (b : Nat) {x1 : Int} (Rx1 : zR x1) {x2 : Int} (Rx2 : zR x2) {v v' : zHp} {r' : Int} (hv : zV 0 137 v) (h : fX6_refuse v x1 x2 = some (v', r')) : zCT l yX6_refuse vsX6_refuse rmX6_refuse D ids b 0 False 137 [zr 3, zi x1, zi x2] v 137 (zV 0 137 v') none v' 0 0 := by
  refine zMet (own := RX6) (by decide +kernel) (show vsX6_refuse = _ from rfl) (Nat.le_of_ble_eq_true rfl) rfl ?_
  intro E hl hRm hD hids hb ho hz hN C hname ret
  subst hl hD hids hb
  unfold fX6_refuse at h
  refine z_aload_n C (zd tX6_refuse 0 rfl) rfl ?_
  refine gf_6_0 C (lg_3 ho) zic_6 (zm zwd_66) (zd tX6_refuse 1 rfl) ?_
  refine z_iconst C (zd tX6_refuse 2 rfl) ?_
  refine z_icmp_ne (tgt := 18) C (hv.1 _ _) (zR_c (-1) rfl) (zd tX6_refuse 3 rfl) (by decide) h (fun h => ?_) (fun h => ?_)
  · obtain ⟨rfl, rfl⟩ := zpi h
    exact ret.2.1 _ _ hv rfl rfl (zd tX6_refuse 11 rfl)
  · refine z_aload_n C (zd tX6_refuse 4 rfl) rfl ?_
    refine z_bipush C (by decide) (zd tX6_refuse 5 rfl) ?_
    refine z_iload_n C (zd tX6_refuse 6 rfl) rfl ?_
    refine z_imul C (zd tX6_refuse 7 rfl) ?_
    refine z_iload_n C (zd tX6_refuse 8 rfl) rfl ?_
    refine z_iadd C (zd tX6_refuse 9 rfl) ?_
    obtain ⟨t1, et1, Rt1, h⟩ := zn_some h
    refine z_n0 (congrArg zI et1.symm) ?_
    obtain ⟨v2, ev2, h⟩ := zb_some h
    have hv2 : zV 0 137 v2 := by rw [ev2]; exact hv.st Rt1 (lg_3 ho).1 (Or.inr rfl)
    refine pf_6_0 C (lg_3 ho) zic_6 (zm zwd_66) ev2 (zd tX6_refuse 10 rfl) ?_
    obtain ⟨rfl, rfl⟩ := zpi h
    exact ret.2.1 _ _ hv2 rfl rfl (zd tX6_refuse 11 rfl)
noncomputable def vsX9_isDigit : List Cond := .code yX9_isDigit cX9_isDigit 1 (some .boolean) :: zbig
abbrev rmX9_isDigit : Room := { frames := 0, cells := 0, slots := 0, locals := 0 }
theorem pX9_isDigit : yX9_isDigit.cls = RX9 ∧ yX9_isDigit.cls ≠ "java/lang/invoke/MethodHandle" ∧ yX9_isDigit.cls ≠ "java/lang/invoke/VarHandle" ∧ (parseMethodDescriptor yX9_isDigit.desc).map (fun d => d.parameters.length) = some 1 := by decide +kernel
set_option maxRecDepth 100000 in
set_option maxHeartbeats 4000000 in
theorem qX9_isDigit (l : Launch) (D : va_G) (ids : Nat → ClassId) (b : Nat) {x0 : Int} (Rx0 : zR x0) {v v' : zHp} {r' : Int} (hv : zV 0 137 v) (h : fX9_isDigit v x0 = some (v', r')) : zCT l yX9_isDigit vsX9_isDigit rmX9_isDigit D ids b 0 False 137 [zi x0] v 137 (zV 0 137 v' ∧ zR r') (some (zi r')) v' 0 0 := by
  refine zMet (own := RX9) (by decide +kernel) (show vsX9_isDigit = _ from rfl) (Nat.le_of_ble_eq_true rfl) rfl ?_
  intro E hl hRm hD hids hb ho hz hN C hname ret
  subst hl hD hids hb
  unfold fX9_isDigit at h
  refine z_iload_n C (zd tX9_isDigit 0 rfl) rfl ?_
  refine z_bipush C (by decide) (zd tX9_isDigit 1 rfl) ?_
  refine z_icmp_lt (tgt := 16) C Rx0 (zR_c 48 rfl) (zd tX9_isDigit 2 rfl) (by decide) h (fun h => ?_) (fun h => ?_)
  · refine z_iconst C (zd tX9_isDigit 8 rfl) ?_
    obtain ⟨rfl, rfl⟩ := zpi h
    exact ret.1 _ _ _ _ ⟨hv, (zR_c 0 rfl)⟩ rfl rfl (by decide) (zd tX9_isDigit 9 rfl)
  · refine z_iload_n C (zd tX9_isDigit 3 rfl) rfl ?_
    refine z_bipush C (by decide) (zd tX9_isDigit 4 rfl) ?_
    refine z_icmp_gt (tgt := 16) C Rx0 (zR_c 57 rfl) (zd tX9_isDigit 5 rfl) (by decide) h (fun h => ?_) (fun h => ?_)
    · refine z_iconst C (zd tX9_isDigit 8 rfl) ?_
      obtain ⟨rfl, rfl⟩ := zpi h
      exact ret.1 _ _ _ _ ⟨hv, (zR_c 0 rfl)⟩ rfl rfl (by decide) (zd tX9_isDigit 9 rfl)
    · refine z_iconst C (zd tX9_isDigit 6 rfl) ?_
      refine z_goto (tgt := 17) C (zd tX9_isDigit 7 rfl) (by decide) ?_
      obtain ⟨rfl, rfl⟩ := zpi h
      exact ret.1 _ _ _ _ ⟨hv, (zR_c 1 rfl)⟩ rfl rfl (by decide) (zd tX9_isDigit 9 rfl)
noncomputable def vsX9_isLetter : List Cond := .code yX9_isLetter cX9_isLetter 1 (some .boolean) :: zbig
abbrev rmX9_isLetter : Room := { frames := 0, cells := 0, slots := 0, locals := 0 }
theorem pX9_isLetter : yX9_isLetter.cls = RX9 ∧ yX9_isLetter.cls ≠ "java/lang/invoke/MethodHandle" ∧ yX9_isLetter.cls ≠ "java/lang/invoke/VarHandle" ∧ (parseMethodDescriptor yX9_isLetter.desc).map (fun d => d.parameters.length) = some 1 := by decide +kernel
set_option maxRecDepth 100000 in
set_option maxHeartbeats 4000000 in
theorem qX9_isLetter (l : Launch) (D : va_G) (ids : Nat → ClassId) (b : Nat) {x0 : Int} (Rx0 : zR x0) {v v' : zHp} {r' : Int} (hv : zV 0 137 v) (h : fX9_isLetter v x0 = some (v', r')) : zCT l yX9_isLetter vsX9_isLetter rmX9_isLetter D ids b 0 False 137 [zi x0] v 137 (zV 0 137 v' ∧ zR r') (some (zi r')) v' 0 0 := by
  refine zMet (own := RX9) (by decide +kernel) (show vsX9_isLetter = _ from rfl) (Nat.le_of_ble_eq_true rfl) rfl ?_
  intro E hl hRm hD hids hb ho hz hN C hname ret
  subst hl hD hids hb
  unfold fX9_isLetter at h
  refine z_iload_n C (zd tX9_isLetter 0 rfl) rfl ?_
  refine z_bipush C (by decide) (zd tX9_isLetter 1 rfl) ?_
  refine z_icmp_lt (tgt := 16) C Rx0 (zR_c 97 rfl) (zd tX9_isLetter 2 rfl) (by decide) h (fun h => ?_) (fun h => ?_)
  · refine z_iconst C (zd tX9_isLetter 8 rfl) ?_
    obtain ⟨rfl, rfl⟩ := zpi h
    exact ret.1 _ _ _ _ ⟨hv, (zR_c 0 rfl)⟩ rfl rfl (by decide) (zd tX9_isLetter 9 rfl)
  · refine z_iload_n C (zd tX9_isLetter 3 rfl) rfl ?_
    refine z_bipush C (by decide) (zd tX9_isLetter 4 rfl) ?_
    refine z_icmp_gt (tgt := 16) C Rx0 (zR_c 122 rfl) (zd tX9_isLetter 5 rfl) (by decide) h (fun h => ?_) (fun h => ?_)
    · refine z_iconst C (zd tX9_isLetter 8 rfl) ?_
      obtain ⟨rfl, rfl⟩ := zpi h
      exact ret.1 _ _ _ _ ⟨hv, (zR_c 0 rfl)⟩ rfl rfl (by decide) (zd tX9_isLetter 9 rfl)
    · refine z_iconst C (zd tX9_isLetter 6 rfl) ?_
      refine z_goto (tgt := 17) C (zd tX9_isLetter 7 rfl) (by decide) ?_
      obtain ⟨rfl, rfl⟩ := zpi h
      exact ret.1 _ _ _ _ ⟨hv, (zR_c 1 rfl)⟩ rfl rfl (by decide) (zd tX9_isLetter 9 rfl)
noncomputable def vsX9_advance : List Cond := .code yX9_advance cX9_advance 1 none :: zbig
abbrev rmX9_advance : Room := { frames := 1, cells := 0, slots := 0, locals := 21 }
theorem pX9_advance : yX9_advance.cls = RX9 ∧ yX9_advance.cls ≠ "java/lang/invoke/MethodHandle" ∧ yX9_advance.cls ≠ "java/lang/invoke/VarHandle" ∧ (parseMethodDescriptor yX9_advance.desc).map (fun d => d.parameters.length) = some 0 := by decide +kernel
set_option maxRecDepth 100000 in
set_option maxHeartbeats 4000000 in
theorem jX9_advance_J47 {E : zE} (C : zC E 137 cX9_advance RX9 vsX9_advance) (hN : zEN E = 1) (ho : zEo E = 0) (hz : zEz E = False) (hRm : zER E = rmX9_advance) (rc : zHp → Option (zHp × (Int))) (res : (zHp × (Int))) (v : zHp) (K1 : ∀ (w : zHp) (q : Int), res = (w, q) → zV 0 137 w → True → zX E 0 0 137 w 60 [some (zr 1)] []) (hrc0 : True) (h : fX9_advance_J47 rc v = some res) (hv : zV 0 137 v) (hrc : ∀ (v : zHp), rc v = some res → zV 0 137 v → zX E 0 0 137 v 8 [some (zr 1)] []): zX E 0 0 137 v 47 [some (zr 1)] [] := by
  unfold fX9_advance_J47 at h
  refine z_aload_n C (zd tX9_advance 23 rfl) rfl ?_
  refine z_dup C (zd tX9_advance 24 rfl) ?_
  refine gf_9_4 C (lg_1 ho) zic_9 (zm zwd_44) (zd tX9_advance 25 rfl) ?_
  refine z_iconst C (zd tX9_advance 26 rfl) ?_
  refine z_iadd C (zd tX9_advance 27 rfl) ?_
  obtain ⟨t3, et3, Rt3, h⟩ := zn_some h
  refine z_n0 (congrArg zI et3.symm) ?_
  obtain ⟨v4, ev4, h⟩ := zb_some h
  have hv4 : zV 0 137 v4 := by rw [ev4]; exact hv.st Rt3 (lg_1 ho).1 (Or.inr rfl)
  refine pf_9_4 C (lg_1 ho) zic_9 (zm zwd_44) ev4 (zd tX9_advance 28 rfl) ?_
  refine z_goto (tgt := 8) C (zd tX9_advance 29 rfl) (by decide) ?_
  refine z_sub (lo' := [some (zr 1)]) (zsub_s zsub_0) ?_
  exact hrc v4 h hv4
set_option maxRecDepth 100000 in
set_option maxHeartbeats 4000000 in
theorem bX9_advance_L8 {E : zE} (C : zC E 137 cX9_advance RX9 vsX9_advance) (hN : zEN E = 1) (ho : zEo E = 0) (hz : zEz E = False) (hRm : zER E = rmX9_advance) : ∀ (fu : Nat) (v : zHp) (res : (zHp × (Int))), fX9_advance_L8 fu v = some res → zV 0 137 v → (∀ (w : zHp) (q : Int), res = (w, q) → zV 0 137 w → True → zX E 0 0 137 w 60 [some (zr 1)] []) → zX E 0 0 137 v 8 [some (zr 1)] [] := by
  intro fu
  induction fu with
  | zero =>
    intro v res h
    cases h
  | succ fu ih =>
    intro v res h hv K1
    rw [fX9_advance_L8.eq_2] at h
    refine z_aload_n C (zd tX9_advance 4 rfl) rfl ?_
    refine gf_9_4 C (lg_1 ho) zic_9 (zm zwd_44) (zd tX9_advance 5 rfl) ?_
    refine z_aload_n C (zd tX9_advance 6 rfl) rfl ?_
    refine gf_9_2 C (lg_1 ho) zic_9 (zm zwd_40) (zd tX9_advance 7 rfl) ?_
    refine z_icmp_ge (tgt := 60) C (hv.1 _ _) (hv.1 _ _) (zd tX9_advance 8 rfl) (by decide) h (fun h => ?_) (fun h => ?_)
    · refine z_sub (lo' := [some (zr 1)]) (zsub_s zsub_0) ?_
      exact K1 _ _ (Option.some.inj h).symm hv trivial
    · refine z_aload_n C (zd tX9_advance 9 rfl) rfl ?_
      refine gl_9_0 (t := 2) C (lg_1 ho) zic_9 (zm zwd_37) (vl_9_0 ho hv (lg_1 ho)) (zd tX9_advance 10 rfl) ?_
      refine z_aload_n C (zd tX9_advance 11 rfl) rfl ?_
      refine gf_9_4 C (lg_1 ho) zic_9 (zm zwd_44) (zd tX9_advance 12 rfl) ?_
      obtain ⟨q2, h⟩ := zck_some h
      refine za_iald C (lg_2 ho) rfl (by decide) q2 (zd tX9_advance 13 rfl) ?_
      refine z_bipush C (by decide) (zd tX9_advance 14 rfl) ?_
      refine z_icmp_eq (tgt := 47) C (hv.1 _ _) (zR_c 32 rfl) (zd tX9_advance 15 rfl) (by decide) h (fun h => ?_) (fun h => ?_)
      · refine z_sub (lo' := [some (zr 1)]) (zsub_s zsub_0) ?_
        exact jX9_advance_J47 C hN ho hz hRm _ _ v K1 trivial h hv (fun w  hw hvw  => ih w  _ hw hvw  K1)
      · refine z_aload_n C (zd tX9_advance 16 rfl) rfl ?_
        refine gl_9_0 (t := 2) C (lg_1 ho) zic_9 (zm zwd_37) (vl_9_0 ho hv (lg_1 ho)) (zd tX9_advance 17 rfl) ?_
        refine z_aload_n C (zd tX9_advance 18 rfl) rfl ?_
        refine gf_9_4 C (lg_1 ho) zic_9 (zm zwd_44) (zd tX9_advance 19 rfl) ?_
        obtain ⟨q5, h⟩ := zck_some h
        refine za_iald C (lg_2 ho) rfl (by decide) q5 (zd tX9_advance 20 rfl) ?_
        refine z_bipush C (by decide) (zd tX9_advance 21 rfl) ?_
        refine z_icmp_ne (tgt := 60) C (hv.1 _ _) (zR_c 10 rfl) (zd tX9_advance 22 rfl) (by decide) h (fun h => ?_) (fun h => ?_)
        · refine z_sub (lo' := [some (zr 1)]) (zsub_s zsub_0) ?_
          exact K1 _ _ (Option.some.inj h).symm hv trivial
        · refine z_sub (lo' := [some (zr 1)]) (zsub_s zsub_0) ?_
          exact jX9_advance_J47 C hN ho hz hRm _ _ v K1 trivial h hv (fun w  hw hvw  => ih w  _ hw hvw  K1)
set_option maxRecDepth 100000 in
set_option maxHeartbeats 4000000 in
theorem bX9_advance_L197 {E : zE} (C : zC E 137 cX9_advance RX9 vsX9_advance) (hN : zEN E = 1) (ho : zEo E = 0) (hz : zEz E = False) (hRm : zER E = rmX9_advance) : ∀ (fu : Nat) (v : zHp) (res : (zHp × (Int))), fX9_advance_L197 fu v = some res → zV 0 137 v → (∀ (w : zHp) (q : Int), res = (w, q) → zV 0 137 w → True → zX E 0 0 137 w 241 [none] []) → zX E 0 0 137 v 197 [some (zr 1)] [] := by
  intro fu
  induction fu with
  | zero =>
    intro v res h
    cases h
  | succ fu ih =>
    intro v res h hv K1
    rw [fX9_advance_L197.eq_2] at h
    refine z_aload_n C (zd tX9_advance 98 rfl) rfl ?_
    refine gf_9_5 C (lg_1 ho) zic_9 (zm zwd_45) (zd tX9_advance 99 rfl) ?_
    refine z_aload_n C (zd tX9_advance 100 rfl) rfl ?_
    refine gf_9_2 C (lg_1 ho) zic_9 (zm zwd_40) (zd tX9_advance 101 rfl) ?_
    refine z_icmp_ge (tgt := 241) C (hv.1 _ _) (hv.1 _ _) (zd tX9_advance 102 rfl) (by decide) h (fun h => ?_) (fun h => ?_)
    · refine z_sub (lo' := [none]) (zsub_n zsub_0) ?_
      exact K1 _ _ (Option.some.inj h).symm hv trivial
    · refine z_aload_n C (zd tX9_advance 103 rfl) rfl ?_
      refine gl_9_0 (t := 2) C (lg_1 ho) zic_9 (zm zwd_37) (vl_9_0 ho hv (lg_1 ho)) (zd tX9_advance 104 rfl) ?_
      refine z_aload_n C (zd tX9_advance 105 rfl) rfl ?_
      refine gf_9_5 C (lg_1 ho) zic_9 (zm zwd_45) (zd tX9_advance 106 rfl) ?_
      obtain ⟨q21, h⟩ := zck_some h
      refine za_iald C (lg_2 ho) rfl (by decide) q21 (zd tX9_advance 107 rfl) ?_
      obtain ⟨v22, r23, cv22, h⟩ := zcl_some h
      refine zc_S C ho hz hRm (qX9_isDigit _ _ _ _ (hv.1 _ _) hv cv22) (zgS zwd_466 zwd_467 zwd_2 zwd_468) rfl pX9_isDigit rfl ⟨rfl, rfl⟩ ⟨Nat.le_of_ble_eq_true rfl, Nat.le_of_ble_eq_true rfl⟩ [] rfl (Nat.le_of_ble_eq_true rfl) (zd tX9_advance 108 rfl) [zi r23] rfl (fun p24 => ?_)
      refine z_if_eq (tgt := 241) C p24.2 (zd tX9_advance 109 rfl) (by decide) h (fun h => ?_) (fun h => ?_)
      · refine z_sub (lo' := [none]) (zsub_n zsub_0) ?_
        exact K1 _ _ (Option.some.inj h).symm p24.1 trivial
      · refine z_aload_n C (zd tX9_advance 110 rfl) rfl ?_
        refine z_dup C (zd tX9_advance 111 rfl) ?_
        refine gf_9_5 C (lg_1 ho) zic_9 (zm zwd_45) (zd tX9_advance 112 rfl) ?_
        refine z_iconst C (zd tX9_advance 113 rfl) ?_
        refine z_iadd C (zd tX9_advance 114 rfl) ?_
        obtain ⟨t25, et25, Rt25, h⟩ := zn_some h
        refine z_n0 (congrArg zI et25.symm) ?_
        obtain ⟨v26, ev26, h⟩ := zb_some h
        have hv26 : zV 0 137 v26 := by rw [ev26]; exact p24.1.st Rt25 (lg_1 ho).1 (Or.inr rfl)
        refine pf_9_5 C (lg_1 ho) zic_9 (zm zwd_45) ev26 (zd tX9_advance 115 rfl) ?_
        refine z_goto (tgt := 197) C (zd tX9_advance 116 rfl) (by decide) ?_
        refine z_sub (lo' := [some (zr 1)]) (zsub_s zsub_0) ?_
        exact ih v26 _ h hv26 K1
set_option maxRecDepth 100000 in
set_option maxHeartbeats 4000000 in
theorem bX9_advance_L138 {E : zE} (C : zC E 137 cX9_advance RX9 vsX9_advance) (hN : zEN E = 1) (ho : zEo E = 0) (hz : zEz E = False) (hRm : zER E = rmX9_advance) : ∀ (fu : Nat) (v : zHp) (res : (zHp × (Int))), fX9_advance_L138 fu v = some res → zV 0 137 v → (∀ (w : zHp) (q : Int), res = (w, q) → zV 0 137 w → True → zX E 0 0 137 w 241 [none] []) → zX E 0 0 137 v 138 [some (zr 1)] [] := by
  intro fu
  induction fu with
  | zero =>
    intro v res h
    cases h
  | succ fu ih =>
    intro v res h hv K1
    rw [fX9_advance_L138.eq_2] at h
    refine z_aload_n C (zd tX9_advance 69 rfl) rfl ?_
    refine gf_9_5 C (lg_1 ho) zic_9 (zm zwd_45) (zd tX9_advance 70 rfl) ?_
    refine z_aload_n C (zd tX9_advance 71 rfl) rfl ?_
    refine gf_9_2 C (lg_1 ho) zic_9 (zm zwd_40) (zd tX9_advance 72 rfl) ?_
    refine z_icmp_ge (tgt := 241) C (hv.1 _ _) (hv.1 _ _) (zd tX9_advance 73 rfl) (by decide) h (fun h => ?_) (fun h => ?_)
    · refine z_sub (lo' := [none]) (zsub_n zsub_0) ?_
      exact K1 _ _ (Option.some.inj h).symm hv trivial
    · refine z_aload_n C (zd tX9_advance 74 rfl) rfl ?_
      refine gl_9_0 (t := 2) C (lg_1 ho) zic_9 (zm zwd_37) (vl_9_0 ho hv (lg_1 ho)) (zd tX9_advance 75 rfl) ?_
      refine z_aload_n C (zd tX9_advance 76 rfl) rfl ?_
      refine gf_9_5 C (lg_1 ho) zic_9 (zm zwd_45) (zd tX9_advance 77 rfl) ?_
      obtain ⟨q30, h⟩ := zck_some h
      refine za_iald C (lg_2 ho) rfl (by decide) q30 (zd tX9_advance 78 rfl) ?_
      obtain ⟨v31, r32, cv31, h⟩ := zcl_some h
      refine zc_S C ho hz hRm (qX9_isLetter _ _ _ _ (hv.1 _ _) hv cv31) (zgS zwd_463 zwd_464 zwd_2 zwd_465) rfl pX9_isLetter rfl ⟨rfl, rfl⟩ ⟨Nat.le_of_ble_eq_true rfl, Nat.le_of_ble_eq_true rfl⟩ [] rfl (Nat.le_of_ble_eq_true rfl) (zd tX9_advance 79 rfl) [zi r32] rfl (fun p33 => ?_)
      refine z_if_eq (tgt := 241) C p33.2 (zd tX9_advance 80 rfl) (by decide) h (fun h => ?_) (fun h => ?_)
      · refine z_sub (lo' := [none]) (zsub_n zsub_0) ?_
        exact K1 _ _ (Option.some.inj h).symm p33.1 trivial
      · refine z_aload_n C (zd tX9_advance 81 rfl) rfl ?_
        refine z_dup C (zd tX9_advance 82 rfl) ?_
        refine gf_9_5 C (lg_1 ho) zic_9 (zm zwd_45) (zd tX9_advance 83 rfl) ?_
        refine z_iconst C (zd tX9_advance 84 rfl) ?_
        refine z_iadd C (zd tX9_advance 85 rfl) ?_
        obtain ⟨t34, et34, Rt34, h⟩ := zn_some h
        refine z_n0 (congrArg zI et34.symm) ?_
        obtain ⟨v35, ev35, h⟩ := zb_some h
        have hv35 : zV 0 137 v35 := by rw [ev35]; exact p33.1.st Rt34 (lg_1 ho).1 (Or.inr rfl)
        refine pf_9_5 C (lg_1 ho) zic_9 (zm zwd_45) ev35 (zd tX9_advance 86 rfl) ?_
        refine z_goto (tgt := 138) C (zd tX9_advance 87 rfl) (by decide) ?_
        refine z_sub (lo' := [some (zr 1)]) (zsub_s zsub_0) ?_
        exact ih v35 _ h hv35 K1
set_option maxRecDepth 100000 in
set_option maxHeartbeats 4000000 in
theorem qX9_advance (l : Launch) (D : va_G) (ids : Nat → ClassId) (b : Nat)  {v v' : zHp} {r' : Int} (hv : zV 0 137 v) (h : fX9_advance v = some (v', r')) : zCT l yX9_advance vsX9_advance rmX9_advance D ids b 0 False 137 [zr 1] v 137 (zV 0 137 v') none v' 0 0 := by
  refine zMet (own := RX9) (by decide +kernel) (show vsX9_advance = _ from rfl) (Nat.le_of_ble_eq_true rfl) rfl ?_
  intro E hl hRm hD hids hb ho hz hN C hname ret
  subst hl hD hids hb
  unfold fX9_advance at h
  refine z_aload_n C (zd tX9_advance 0 rfl) rfl ?_
  refine z_aload_n C (zd tX9_advance 1 rfl) rfl ?_
  refine gf_9_5 C (lg_1 ho) zic_9 (zm zwd_45) (zd tX9_advance 2 rfl) ?_
  obtain ⟨v1, ev1, h⟩ := zb_some h
  have hv1 : zV 0 137 v1 := by rw [ev1]; exact hv.st (hv.1 _ _) (lg_1 ho).1 (Or.inr rfl)
  refine pf_9_4 C (lg_1 ho) zic_9 (zm zwd_44) ev1 (zd tX9_advance 3 rfl) ?_
  refine z_sub (lo' := [some (zr 1)]) (zsub_s zsub_0) ?_
  obtain ⟨v6, w7, lv6, h⟩ := zl_some h
  refine bX9_advance_L8 C hN ho hz hRm zFU v1 _ lv6 hv1 (fun w1 q1 e1 hv6 Rw7 => ?_)
  obtain ⟨rfl, rfl⟩ := zpp e1
  refine z_aload_n C (zd tX9_advance 30 rfl) rfl ?_
  refine z_aload_n C (zd tX9_advance 31 rfl) rfl ?_
  refine gf_9_4 C (lg_1 ho) zic_9 (zm zwd_44) (zd tX9_advance 32 rfl) ?_
  refine z_iconst C (zd tX9_advance 33 rfl) ?_
  refine z_iadd C (zd tX9_advance 34 rfl) ?_
  refine z_aload_n C (zd tX9_advance 35 rfl) rfl ?_
  refine gf_9_2 C (lg_1 ho) zic_9 (zm zwd_40) (zd tX9_advance 36 rfl) ?_
  obtain ⟨t8, et8, Rt8, h⟩ := zn_some h
  refine z_n1 (congrArg zI et8.symm) ?_
  refine z_min C hRm Rt8 (hv6.1 _ _) ⟨(zm zwd_456), (zm zwd_457), (zm zwd_14), (zm zwd_458)⟩ ⟨Nat.le_of_ble_eq_true rfl, Nat.le_of_ble_eq_true rfl, Nat.zero_le _, Nat.zero_le _⟩ (zd tX9_advance 37 rfl) ?_
  obtain ⟨v9, ev9, h⟩ := zb_some h
  have hv9 : zV 0 137 v9 := by rw [ev9]; exact hv6.st (zR_min Rt8 (hv6.1 _ _)) (lg_1 ho).1 (Or.inr rfl)
  refine pf_9_5 C (lg_1 ho) zic_9 (zm zwd_45) ev9 (zd tX9_advance 38 rfl) ?_
  refine z_aload_n C (zd tX9_advance 39 rfl) rfl ?_
  refine gf_9_4 C (lg_1 ho) zic_9 (zm zwd_44) (zd tX9_advance 40 rfl) ?_
  refine z_aload_n C (zd tX9_advance 41 rfl) rfl ?_
  refine gf_9_2 C (lg_1 ho) zic_9 (zm zwd_40) (zd tX9_advance 42 rfl) ?_
  refine z_icmp_lt (tgt := 96) C (hv9.1 _ _) (hv9.1 _ _) (zd tX9_advance 43 rfl) (by decide) h (fun h => ?_) (fun h => ?_)
  · refine z_aload_n C (zd tX9_advance 48 rfl) rfl ?_
    refine gl_9_0 (t := 2) C (lg_1 ho) zic_9 (zm zwd_37) (vl_9_0 ho hv9 (lg_1 ho)) (zd tX9_advance 49 rfl) ?_
    refine z_aload_n C (zd tX9_advance 50 rfl) rfl ?_
    refine gf_9_4 C (lg_1 ho) zic_9 (zm zwd_44) (zd tX9_advance 51 rfl) ?_
    obtain ⟨q10, h⟩ := zck_some h
    refine za_iald C (lg_2 ho) rfl (by decide) q10 (zd tX9_advance 52 rfl) ?_
    refine z_bipush C (by decide) (zd tX9_advance 53 rfl) ?_
    refine z_icmp_ne (tgt := 118) C (hv9.1 _ _) (zR_c 59 rfl) (zd tX9_advance 54 rfl) (by decide) h (fun h => ?_) (fun h => ?_)
    · refine z_aload_n C (zd tX9_advance 59 rfl) rfl ?_
      refine gl_9_0 (t := 2) C (lg_1 ho) zic_9 (zm zwd_37) (vl_9_0 ho hv9 (lg_1 ho)) (zd tX9_advance 60 rfl) ?_
      refine z_aload_n C (zd tX9_advance 61 rfl) rfl ?_
      refine gf_9_4 C (lg_1 ho) zic_9 (zm zwd_44) (zd tX9_advance 62 rfl) ?_
      obtain ⟨q11, h⟩ := zck_some h
      refine za_iald C (lg_2 ho) rfl (by decide) q11 (zd tX9_advance 63 rfl) ?_
      obtain ⟨v12, r13, cv12, h⟩ := zcl_some h
      refine zc_S C ho hz hRm (qX9_isLetter _ _ _ _ (hv9.1 _ _) hv9 cv12) (zgS zwd_463 zwd_464 zwd_2 zwd_465) rfl pX9_isLetter rfl ⟨rfl, rfl⟩ ⟨Nat.le_of_ble_eq_true rfl, Nat.le_of_ble_eq_true rfl⟩ [] rfl (Nat.le_of_ble_eq_true rfl) (zd tX9_advance 64 rfl) [zi r13] rfl (fun p14 => ?_)
      refine z_if_eq (tgt := 177) C p14.2 (zd tX9_advance 65 rfl) (by decide) h (fun h => ?_) (fun h => ?_)
      · refine z_aload_n C (zd tX9_advance 88 rfl) rfl ?_
        refine gl_9_0 (t := 2) C (lg_1 ho) zic_9 (zm zwd_37) (vl_9_0 ho p14.1 (lg_1 ho)) (zd tX9_advance 89 rfl) ?_
        refine z_aload_n C (zd tX9_advance 90 rfl) rfl ?_
        refine gf_9_4 C (lg_1 ho) zic_9 (zm zwd_44) (zd tX9_advance 91 rfl) ?_
        obtain ⟨q15, h⟩ := zck_some h
        refine za_iald C (lg_2 ho) rfl (by decide) q15 (zd tX9_advance 92 rfl) ?_
        obtain ⟨v16, r17, cv16, h⟩ := zcl_some h
        refine zc_S C ho hz hRm (qX9_isDigit _ _ _ _ (p14.1.1 _ _) p14.1 cv16) (zgS zwd_466 zwd_467 zwd_2 zwd_468) rfl pX9_isDigit rfl ⟨rfl, rfl⟩ ⟨Nat.le_of_ble_eq_true rfl, Nat.le_of_ble_eq_true rfl⟩ [] rfl (Nat.le_of_ble_eq_true rfl) (zd tX9_advance 93 rfl) [zi r17] rfl (fun p18 => ?_)
        refine z_if_eq (tgt := 236) C p18.2 (zd tX9_advance 94 rfl) (by decide) h (fun h => ?_) (fun h => ?_)
        · refine z_aload_n C (zd tX9_advance 117 rfl) rfl ?_
          refine z_iconst C (zd tX9_advance 118 rfl) ?_
          obtain ⟨v19, ev19, h⟩ := zb_some h
          have hv19 : zV 0 137 v19 := by rw [ev19]; exact p18.1.st (zR_c 4 rfl) (lg_1 ho).1 (Or.inr rfl)
          refine pf_9_3 C (lg_1 ho) zic_9 (zm zwd_42) ev19 (zd tX9_advance 119 rfl) ?_
          obtain ⟨rfl, rfl⟩ := zpi h
          exact ret.2.1 _ _ hv19 rfl rfl (zd tX9_advance 120 rfl)
        · refine z_aload_n C (zd tX9_advance 95 rfl) rfl ?_
          refine z_iconst C (zd tX9_advance 96 rfl) ?_
          obtain ⟨v20, ev20, h⟩ := zb_some h
          have hv20 : zV 0 137 v20 := by rw [ev20]; exact p18.1.st (zR_c 2 rfl) (lg_1 ho).1 (Or.inr rfl)
          refine pf_9_3 C (lg_1 ho) zic_9 (zm zwd_42) ev20 (zd tX9_advance 97 rfl) ?_
          refine z_sub (lo' := [some (zr 1)]) (zsub_s zsub_0) ?_
          obtain ⟨v27, w28, lv27, h⟩ := zl_some h
          refine bX9_advance_L197 C hN ho hz hRm zFU v20 _ lv27 hv20 (fun w1 q1 e1 hv27 Rw28 => ?_)
          obtain ⟨rfl, rfl⟩ := zpp e1
          obtain ⟨rfl, rfl⟩ := zpi h
          exact ret.2.1 _ _ hv27 rfl rfl (zd tX9_advance 120 rfl)
      · refine z_aload_n C (zd tX9_advance 66 rfl) rfl ?_
        refine z_iconst C (zd tX9_advance 67 rfl) ?_
        obtain ⟨v29, ev29, h⟩ := zb_some h
        have hv29 : zV 0 137 v29 := by rw [ev29]; exact p14.1.st (zR_c 1 rfl) (lg_1 ho).1 (Or.inr rfl)
        refine pf_9_3 C (lg_1 ho) zic_9 (zm zwd_42) ev29 (zd tX9_advance 68 rfl) ?_
        refine z_sub (lo' := [some (zr 1)]) (zsub_s zsub_0) ?_
        obtain ⟨v36, w37, lv36, h⟩ := zl_some h
        refine bX9_advance_L138 C hN ho hz hRm zFU v29 _ lv36 hv29 (fun w1 q1 e1 hv36 Rw37 => ?_)
        obtain ⟨rfl, rfl⟩ := zpp e1
        obtain ⟨rfl, rfl⟩ := zpi h
        exact ret.2.1 _ _ hv36 rfl rfl (zd tX9_advance 120 rfl)
    · refine z_aload_n C (zd tX9_advance 55 rfl) rfl ?_
      refine z_iconst C (zd tX9_advance 56 rfl) ?_
      obtain ⟨v38, ev38, h⟩ := zb_some h
      have hv38 : zV 0 137 v38 := by rw [ev38]; exact hv9.st (zR_c 3 rfl) (lg_1 ho).1 (Or.inr rfl)
      refine pf_9_3 C (lg_1 ho) zic_9 (zm zwd_42) ev38 (zd tX9_advance 57 rfl) ?_
      refine z_goto (tgt := 241) C (zd tX9_advance 58 rfl) (by decide) ?_
      obtain ⟨rfl, rfl⟩ := zpi h
      exact ret.2.1 _ _ hv38 rfl rfl (zd tX9_advance 120 rfl)
  · refine z_aload_n C (zd tX9_advance 44 rfl) rfl ?_
    refine z_iconst C (zd tX9_advance 45 rfl) ?_
    obtain ⟨v39, ev39, h⟩ := zb_some h
    have hv39 : zV 0 137 v39 := by rw [ev39]; exact hv9.st (zR_c 0 rfl) (lg_1 ho).1 (Or.inr rfl)
    refine pf_9_3 C (lg_1 ho) zic_9 (zm zwd_42) ev39 (zd tX9_advance 46 rfl) ?_
    refine z_goto (tgt := 241) C (zd tX9_advance 47 rfl) (by decide) ?_
    obtain ⟨rfl, rfl⟩ := zpi h
    exact ret.2.1 _ _ hv39 rfl rfl (zd tX9_advance 120 rfl)
noncomputable def vsX6_passIf : List Cond := .code yX6_passIf cX6_passIf 3 none :: zbig
abbrev rmX6_passIf : Room := { frames := 2, cells := 0, slots := 0, locals := 41 }
theorem pX6_passIf : yX6_passIf.cls = RX6 ∧ yX6_passIf.cls ≠ "java/lang/invoke/MethodHandle" ∧ yX6_passIf.cls ≠ "java/lang/invoke/VarHandle" ∧ (parseMethodDescriptor yX6_passIf.desc).map (fun d => d.parameters.length) = some 2 := by decide +kernel
set_option maxRecDepth 100000 in
set_option maxHeartbeats 4000000 in
theorem jX6_passIf_J13 {E : zE} (C : zC E 137 cX6_passIf RX6 vsX6_passIf) (hN : zEN E = 3) (ho : zEo E = 0) (hz : zEz E = False) (hRm : zER E = rmX6_passIf) {v' : zHp} {r' : Int} (ret : zRet E cX6_passIf 0 0 137 none (zV 0 137 v') none v') (v : zHp) (h : fX6_passIf_J13 v = some (v', r')) (hv : zV 0 137 v) : zX E 0 0 137 v 13 [some (zr 3), some (zr 1), none] [] := by
  unfold fX6_passIf_J13 at h
  refine z_aload_n C (zd tX6_passIf 7 rfl) rfl ?_
  refine gf_6_0 C (lg_3 ho) zic_6 (zm zwd_66) (zd tX6_passIf 8 rfl) ?_
  refine z_iconst C (zd tX6_passIf 9 rfl) ?_
  refine z_icmp_ne (tgt := 25) C (hv.1 _ _) (zR_c (-1) rfl) (zd tX6_passIf 10 rfl) (by decide) h (fun h => ?_) (fun h => ?_)
  · obtain ⟨rfl, rfl⟩ := zpi h
    exact ret.2.1 _ _ hv rfl rfl (zd tX6_passIf 13 rfl)
  · refine z_aload_n C (zd tX6_passIf 11 rfl) rfl ?_
    obtain ⟨v1, r2, cv1, h⟩ := zcl_some h
    refine zc_V C ho hz hRm (qX9_advance _ _ _ _ hv cv1) (lg_1 ho) (by decide) rfl (zgV zwd_542 zwd_460 zwd_461 zwd_2 zwd_462) rfl pX9_advance rfl ⟨rfl, rfl⟩ ⟨Nat.le_of_ble_eq_true rfl, Nat.le_of_ble_eq_true rfl⟩ [] rfl (Nat.le_of_ble_eq_true rfl) (zd tX6_passIf 12 rfl) [] rfl (fun p3 => ?_)
    obtain ⟨rfl, rfl⟩ := zpi h
    exact ret.2.1 _ _ p3 rfl rfl (zd tX6_passIf 13 rfl)
set_option maxRecDepth 100000 in
set_option maxHeartbeats 4000000 in
theorem qX6_passIf (l : Launch) (D : va_G) (ids : Nat → ClassId) (b : Nat) {x2 : Int} (Rx2 : zR x2) {v v' : zHp} {r' : Int} (hv : zV 0 137 v) (h : fX6_passIf v x2 = some (v', r')) : zCT l yX6_passIf vsX6_passIf rmX6_passIf D ids b 0 False 137 [zr 3, zr 1, zi x2] v 137 (zV 0 137 v') none v' 0 0 := by
  refine zMet (own := RX6) (by decide +kernel) (show vsX6_passIf = _ from rfl) (Nat.le_of_ble_eq_true rfl) rfl ?_
  intro E hl hRm hD hids hb ho hz hN C hname ret
  subst hl hD hids hb
  unfold fX6_passIf at h
  refine z_iload_n C (zd tX6_passIf 0 rfl) rfl ?_
  refine z_if_ne (tgt := 13) C Rx2 (zd tX6_passIf 1 rfl) (by decide) h (fun h => ?_) (fun h => ?_)
  · refine z_sub (lo' := [some (zr 3), some (zr 1), none]) (zsub_s (zsub_s (zsub_n zsub_0))) ?_
    exact jX6_passIf_J13 C hN ho hz hRm ret v h hv
  · refine z_aload_n C (zd tX6_passIf 2 rfl) rfl ?_
    refine z_aload_n C (zd tX6_passIf 3 rfl) rfl ?_
    refine gf_9_4 C (lg_1 ho) zic_9 (zm zwd_43) (zd tX6_passIf 4 rfl) ?_
    refine z_iconst C (zd tX6_passIf 5 rfl) ?_
    obtain ⟨v4, r5, cv4, h⟩ := zcl_some h
    refine zc_V C ho hz hRm (qX6_refuse _ _ _ _ (hv.1 _ _) (zR_c 1 rfl) hv cv4) (lg_3 ho) (by decide) rfl (zgV zwd_534 zwd_536 zws_3 zwd_3 zwd_537) rfl pX6_refuse rfl ⟨rfl, rfl⟩ ⟨Nat.le_of_ble_eq_true rfl, Nat.le_of_ble_eq_true rfl⟩ [] rfl (Nat.le_of_ble_eq_true rfl) (zd tX6_passIf 6 rfl) [] rfl (fun p6 => ?_)
    refine z_sub (lo' := [some (zr 3), some (zr 1), none]) (zsub_s (zsub_s (zsub_n zsub_0))) ?_
    exact jX6_passIf_J13 C hN ho hz hRm ret v4 h p6
noncomputable def vsX6_passOnce : List Cond := .code yX6_passOnce cX6_passOnce 3 none :: zbig
abbrev rmX6_passOnce : Room := { frames := 3, cells := 0, slots := 0, locals := 63 }
theorem pX6_passOnce : yX6_passOnce.cls = RX6 ∧ yX6_passOnce.cls ≠ "java/lang/invoke/MethodHandle" ∧ yX6_passOnce.cls ≠ "java/lang/invoke/VarHandle" ∧ (parseMethodDescriptor yX6_passOnce.desc).map (fun d => d.parameters.length) = some 2 := by decide +kernel
set_option maxRecDepth 100000 in
set_option maxHeartbeats 4000000 in
theorem jX6_passOnce_J18 {E : zE} (C : zC E 137 cX6_passOnce RX6 vsX6_passOnce) (hN : zEN E = 3) (ho : zEo E = 0) (hz : zEz E = False) (hRm : zER E = rmX6_passOnce) {v' : zHp} {r' : Int} (ret : zRet E cX6_passOnce 0 0 137 none (zV 0 137 v') none v') (v : zHp) (x2 : Int) (h : fX6_passOnce_J18 v x2 = some (v', r')) (hv : zV 0 137 v) (Rx2 : zR x2) : zX E 0 0 137 v 18 [some (zr 3), some (zr 1), some (zi x2)] [] := by
  unfold fX6_passOnce_J18 at h
  refine z_aload_n C (zd tX6_passOnce 10 rfl) rfl ?_
  refine z_dup C (zd tX6_passOnce 11 rfl) ?_
  refine gf_6_1 C (lg_3 ho) zic_6 (zm zwd_67) (zd tX6_passOnce 12 rfl) ?_
  refine z_iload_n C (zd tX6_passOnce 13 rfl) rfl ?_
  refine z_ior C (zd tX6_passOnce 14 rfl) ?_
  obtain ⟨v1, ev1, h⟩ := zb_some h
  have hv1 : zV 0 137 v1 := by rw [ev1]; exact hv.st (zR_or _ _) (lg_3 ho).1 (Or.inr rfl)
  refine pf_6_1 C (lg_3 ho) zic_6 (zm zwd_67) ev1 (zd tX6_passOnce 15 rfl) ?_
  refine z_aload_n C (zd tX6_passOnce 16 rfl) rfl ?_
  refine z_aload_n C (zd tX6_passOnce 17 rfl) rfl ?_
  refine z_iconst C (zd tX6_passOnce 18 rfl) ?_
  obtain ⟨v2, r3, cv2, h⟩ := zcl_some h
  refine zc_V C ho hz hRm (qX6_passIf _ _ _ _ (zR_c 1 rfl) hv1 cv2) (lg_3 ho) (by decide) rfl (zgV zwd_538 zwd_540 zws_4 zwd_3 zwd_541) rfl pX6_passIf rfl ⟨rfl, rfl⟩ ⟨Nat.le_of_ble_eq_true rfl, Nat.le_of_ble_eq_true rfl⟩ [] rfl (Nat.le_of_ble_eq_true rfl) (zd tX6_passOnce 19 rfl) [] rfl (fun p4 => ?_)
  obtain ⟨rfl, rfl⟩ := zpi h
  exact ret.2.1 _ _ p4 rfl rfl (zd tX6_passOnce 20 rfl)
set_option maxRecDepth 100000 in
set_option maxHeartbeats 4000000 in
theorem qX6_passOnce (l : Launch) (D : va_G) (ids : Nat → ClassId) (b : Nat) {x2 : Int} (Rx2 : zR x2) {v v' : zHp} {r' : Int} (hv : zV 0 137 v) (h : fX6_passOnce v x2 = some (v', r')) : zCT l yX6_passOnce vsX6_passOnce rmX6_passOnce D ids b 0 False 137 [zr 3, zr 1, zi x2] v 137 (zV 0 137 v') none v' 0 0 := by
  refine zMet (own := RX6) (by decide +kernel) (show vsX6_passOnce = _ from rfl) (Nat.le_of_ble_eq_true rfl) rfl ?_
  intro E hl hRm hD hids hb ho hz hN C hname ret
  subst hl hD hids hb
  unfold fX6_passOnce at h
  refine z_aload_n C (zd tX6_passOnce 0 rfl) rfl ?_
  refine gf_6_1 C (lg_3 ho) zic_6 (zm zwd_67) (zd tX6_passOnce 1 rfl) ?_
  refine z_iload_n C (zd tX6_passOnce 2 rfl) rfl ?_
  refine z_iand C (zd tX6_passOnce 3 rfl) ?_
  refine z_if_eq (tgt := 18) C (zR_and _ _) (zd tX6_passOnce 4 rfl) (by decide) h (fun h => ?_) (fun h => ?_)
  · refine z_sub (lo' := [some (zr 3), some (zr 1), some (zi x2)]) (zsub_s (zsub_s (zsub_s zsub_0))) ?_
    exact jX6_passOnce_J18 C hN ho hz hRm ret v x2 h hv Rx2
  · refine z_aload_n C (zd tX6_passOnce 5 rfl) rfl ?_
    refine z_aload_n C (zd tX6_passOnce 6 rfl) rfl ?_
    refine gf_9_4 C (lg_1 ho) zic_9 (zm zwd_43) (zd tX6_passOnce 7 rfl) ?_
    refine z_iconst C (zd tX6_passOnce 8 rfl) ?_
    obtain ⟨v5, r6, cv5, h⟩ := zcl_some h
    refine zc_V C ho hz hRm (qX6_refuse _ _ _ _ (hv.1 _ _) (zR_c 3 rfl) hv cv5) (lg_3 ho) (by decide) rfl (zgV zwd_534 zwd_536 zws_3 zwd_3 zwd_537) rfl pX6_refuse rfl ⟨rfl, rfl⟩ ⟨Nat.le_of_ble_eq_true rfl, Nat.le_of_ble_eq_true rfl⟩ [] rfl (Nat.le_of_ble_eq_true rfl) (zd tX6_passOnce 9 rfl) [] rfl (fun p7 => ?_)
    refine z_sub (lo' := [some (zr 3), some (zr 1), some (zi x2)]) (zsub_s (zsub_s (zsub_s zsub_0))) ?_
    exact jX6_passOnce_J18 C hN ho hz hRm ret v5 x2 h p7 Rx2
noncomputable def vsX9_value : List Cond := .code yX9_value cX9_value 3 (some .int) :: zbig
abbrev rmX9_value : Room := { frames := 0, cells := 0, slots := 0, locals := 0 }
theorem pX9_value : yX9_value.cls = RX9 ∧ yX9_value.cls ≠ "java/lang/invoke/MethodHandle" ∧ yX9_value.cls ≠ "java/lang/invoke/VarHandle" ∧ (parseMethodDescriptor yX9_value.desc).map (fun d => d.parameters.length) = some 0 := by decide +kernel
set_option maxRecDepth 100000 in
set_option maxHeartbeats 4000000 in
theorem bX9_value_L22 {E : zE} (C : zC E 137 cX9_value RX9 vsX9_value) (hN : zEN E = 3) (ho : zEo E = 0) (hz : zEz E = False) (hRm : zER E = rmX9_value) : ∀ (fu : Nat) (v : zHp) (x1 : Int) (x2 : Int) (res : (zHp × (Int))), fX9_value_L22 fu v x1 x2 = some res → zV 0 137 v → zR x1 → zR x2 → (∀ (w : zHp) (q : Int), res = (w, q) → zV 0 137 w → zR q → zX E 0 0 137 w 51 [none, some (zi q), none] []) → zX E 0 0 137 v 22 [some (zr 1), some (zi x1), some (zi x2)] [] := by
  intro fu
  induction fu with
  | zero =>
    intro v _ _ res h
    cases h
  | succ fu ih =>
    intro v x1 x2 res h hv Rx1 Rx2 K1
    rw [fX9_value_L22.eq_2] at h
    refine z_iload_n C (zd tX9_value 14 rfl) rfl ?_
    refine z_aload_n C (zd tX9_value 15 rfl) rfl ?_
    refine gf_9_5 C (lg_1 ho) zic_9 (zm zwd_45) (zd tX9_value 16 rfl) ?_
    refine z_icmp_ge (tgt := 51) C Rx2 (hv.1 _ _) (zd tX9_value 17 rfl) (by decide) h (fun h => ?_) (fun h => ?_)
    · refine z_sub (lo' := [none, some (zi x1), none]) (zsub_n (zsub_s (zsub_n zsub_0))) ?_
      exact K1 _ _ (Option.some.inj h).symm hv Rx1
    · refine z_iload_n C (zd tX9_value 18 rfl) rfl ?_
      refine z_bipush C (by decide) (zd tX9_value 19 rfl) ?_
      refine z_imul C (zd tX9_value 20 rfl) ?_
      refine z_aload_n C (zd tX9_value 21 rfl) rfl ?_
      refine gl_9_0 (t := 2) C (lg_1 ho) zic_9 (zm zwd_37) (vl_9_0 ho hv (lg_1 ho)) (zd tX9_value 22 rfl) ?_
      refine z_iload_n C (zd tX9_value 23 rfl) rfl ?_
      obtain ⟨q2, h⟩ := zck_some h
      refine za_iald C (lg_2 ho) rfl (by decide) q2 (zd tX9_value 24 rfl) ?_
      refine z_iadd C (zd tX9_value 25 rfl) ?_
      refine z_bipush C (by decide) (zd tX9_value 26 rfl) ?_
      refine z_isub C (zd tX9_value 27 rfl) ?_
      obtain ⟨t3, et3, Rt3, h⟩ := zn_some h
      refine z_n0 (congrArg zI et3.symm) ?_
      refine z_istore_n C (zd tX9_value 28 rfl) (by rw [hN]; decide) ?_
      obtain ⟨t4, et4, Rt4, h⟩ := zn_some h
      refine z_iincE C (zd tX9_value 29 rfl) (by rw [hN]; decide) rfl et4 ?_
      refine z_goto (tgt := 22) C (zd tX9_value 30 rfl) (by decide) ?_
      refine z_sub (lo' := [some (zr 1), some (zi t3), some (zi t4)]) (zsub_s (zsub_s (zsub_s zsub_0))) ?_
      exact ih v t3 t4 _ h hv Rt3 Rt4 K1
set_option maxRecDepth 100000 in
set_option maxHeartbeats 4000000 in
theorem qX9_value (l : Launch) (D : va_G) (ids : Nat → ClassId) (b : Nat)  {v v' : zHp} {r' : Int} (hv : zV 0 137 v) (h : fX9_value v = some (v', r')) : zCT l yX9_value vsX9_value rmX9_value D ids b 0 False 137 [zr 1] v 137 (zV 0 137 v' ∧ zR r') (some (zi r')) v' 0 0 := by
  refine zMet (own := RX9) (by decide +kernel) (show vsX9_value = _ from rfl) (Nat.le_of_ble_eq_true rfl) rfl ?_
  intro E hl hRm hD hids hb ho hz hN C hname ret
  subst hl hD hids hb
  unfold fX9_value at h
  refine z_aload_n C (zd tX9_value 0 rfl) rfl ?_
  refine gf_9_5 C (lg_1 ho) zic_9 (zm zwd_45) (zd tX9_value 1 rfl) ?_
  refine z_aload_n C (zd tX9_value 2 rfl) rfl ?_
  refine gf_9_4 C (lg_1 ho) zic_9 (zm zwd_44) (zd tX9_value 3 rfl) ?_
  refine z_isub C (zd tX9_value 4 rfl) ?_
  refine z_iconst C (zd tX9_value 5 rfl) ?_
  obtain ⟨t1, et1, Rt1, h⟩ := zn_some h
  refine z_n1 (congrArg zI et1.symm) ?_
  refine z_icmp_le (tgt := 15) C Rt1 (zR_c 4 rfl) (zd tX9_value 6 rfl) (by decide) h (fun h => ?_) (fun h => ?_)
  · refine z_iconst C (zd tX9_value 9 rfl) ?_
    refine z_istore_n C (zd tX9_value 10 rfl) (by rw [hN]; decide) ?_
    refine z_aload_n C (zd tX9_value 11 rfl) rfl ?_
    refine gf_9_4 C (lg_1 ho) zic_9 (zm zwd_44) (zd tX9_value 12 rfl) ?_
    refine z_istore_n C (zd tX9_value 13 rfl) (by rw [hN]; decide) ?_
    refine z_sub (lo' := [some (zr 1), some (zi 0), some (zi (v 1 4))]) (zsub_s (zsub_s (zsub_s zsub_0))) ?_
    obtain ⟨v5, w6, lv5, h⟩ := zl_some h
    refine bX9_value_L22 C hN ho hz hRm zFU v 0 (v 1 4) _ lv5 hv (zR_c 0 rfl) (hv.1 _ _) (fun w1 q1 e1 hv5 Rw6 => ?_)
    obtain ⟨rfl, rfl⟩ := zpp e1
    refine z_iload_n C (zd tX9_value 31 rfl) rfl ?_
    obtain ⟨rfl, rfl⟩ := zpi h
    exact ret.1 _ _ _ _ ⟨hv5, Rw6⟩ rfl rfl rfl (zd tX9_value 32 rfl)
  · refine z_iconst C (zd tX9_value 7 rfl) ?_
    obtain ⟨rfl, rfl⟩ := zpi h
    exact ret.1 _ _ _ _ ⟨hv, (zR_c (-1) rfl)⟩ rfl rfl rfl (zd tX9_value 8 rfl)
noncomputable def vsX6_readNumber : List Cond := .code yX6_readNumber cX6_readNumber 5 (some .int) :: zbig
abbrev rmX6_readNumber : Room := { frames := 2, cells := 0, slots := 0, locals := 41 }
theorem pX6_readNumber : yX6_readNumber.cls = RX6 ∧ yX6_readNumber.cls ≠ "java/lang/invoke/MethodHandle" ∧ yX6_readNumber.cls ≠ "java/lang/invoke/VarHandle" ∧ (parseMethodDescriptor yX6_readNumber.desc).map (fun d => d.parameters.length) = some 3 := by decide +kernel
set_option maxRecDepth 100000 in
set_option maxHeartbeats 4000000 in
theorem jX6_readNumber_J46 {E : zE} (C : zC E 137 cX6_readNumber RX6 vsX6_readNumber) (hN : zEN E = 5) (ho : zEo E = 0) (hz : zEz E = False) (hRm : zER E = rmX6_readNumber) {v' : zHp} {r' : Int} (ret : zRet E cX6_readNumber 0 0 137 (some .int) (zV 0 137 v' ∧ zR r') (some (zi r')) v') (v : zHp) (x4 : Int) (h : fX6_readNumber_J46 v x4 = some (v', r')) (hv : zV 0 137 v) (Rx4 : zR x4) : zX E 0 0 137 v 46 [some (zr 3), some (zr 1), none, none, some (zi x4)] [] := by
  unfold fX6_readNumber_J46 at h
  refine z_aload_n C (zd tX6_readNumber 25 rfl) rfl ?_
  refine gf_6_0 C (lg_3 ho) zic_6 (zm zwd_66) (zd tX6_readNumber 26 rfl) ?_
  refine z_iconst C (zd tX6_readNumber 27 rfl) ?_
  refine z_icmp_ne (tgt := 58) C (hv.1 _ _) (zR_c (-1) rfl) (zd tX6_readNumber 28 rfl) (by decide) h (fun h => ?_) (fun h => ?_)
  · refine z_iload C (zd tX6_readNumber 31 rfl) rfl ?_
    obtain ⟨rfl, rfl⟩ := zpi h
    exact ret.1 _ _ _ _ ⟨hv, Rx4⟩ rfl rfl rfl (zd tX6_readNumber 32 rfl)
  · refine z_aload_n C (zd tX6_readNumber 29 rfl) rfl ?_
    obtain ⟨v7, r8, cv7, h⟩ := zcl_some h
    refine zc_V C ho hz hRm (qX9_advance _ _ _ _ hv cv7) (lg_1 ho) (by decide) rfl (zgV zwd_542 zwd_460 zwd_461 zwd_2 zwd_462) rfl pX9_advance rfl ⟨rfl, rfl⟩ ⟨Nat.le_of_ble_eq_true rfl, Nat.le_of_ble_eq_true rfl⟩ [] rfl (Nat.le_of_ble_eq_true rfl) (zd tX6_readNumber 30 rfl) [] rfl (fun p9 => ?_)
    refine z_iload C (zd tX6_readNumber 31 rfl) rfl ?_
    obtain ⟨rfl, rfl⟩ := zpi h
    exact ret.1 _ _ _ _ ⟨p9, Rx4⟩ rfl rfl rfl (zd tX6_readNumber 32 rfl)
set_option maxRecDepth 100000 in
set_option maxHeartbeats 4000000 in
theorem jX6_readNumber_J37 {E : zE} (C : zC E 137 cX6_readNumber RX6 vsX6_readNumber) (hN : zEN E = 5) (ho : zEo E = 0) (hz : zEz E = False) (hRm : zER E = rmX6_readNumber) {v' : zHp} {r' : Int} (ret : zRet E cX6_readNumber 0 0 137 (some .int) (zV 0 137 v' ∧ zR r') (some (zi r')) v') (v : zHp) (x4 : Int) (h : fX6_readNumber_J37 v x4 = some (v', r')) (hv : zV 0 137 v) (Rx4 : zR x4) : zX E 0 0 137 v 37 [some (zr 3), some (zr 1), none, none, some (zi x4)] [] := by
  unfold fX6_readNumber_J37 at h
  refine z_aload_n C (zd tX6_readNumber 20 rfl) rfl ?_
  refine z_aload_n C (zd tX6_readNumber 21 rfl) rfl ?_
  refine gf_9_4 C (lg_1 ho) zic_9 (zm zwd_43) (zd tX6_readNumber 22 rfl) ?_
  refine z_iconst C (zd tX6_readNumber 23 rfl) ?_
  obtain ⟨v4, r5, cv4, h⟩ := zcl_some h
  refine zc_V C ho hz hRm (qX6_refuse _ _ _ _ (hv.1 _ _) (zR_c 2 rfl) hv cv4) (lg_3 ho) (by decide) rfl (zgV zwd_534 zwd_536 zws_3 zwd_3 zwd_537) rfl pX6_refuse rfl ⟨rfl, rfl⟩ ⟨Nat.le_of_ble_eq_true rfl, Nat.le_of_ble_eq_true rfl⟩ [] rfl (Nat.le_of_ble_eq_true rfl) (zd tX6_readNumber 24 rfl) [] rfl (fun p6 => ?_)
  refine z_sub (lo' := [some (zr 3), some (zr 1), none, none, some (zi x4)]) (zsub_s (zsub_s (zsub_n (zsub_n (zsub_s zsub_0))))) ?_
  exact jX6_readNumber_J46 C hN ho hz hRm ret v4 x4 h p6 Rx4
set_option maxRecDepth 100000 in
set_option maxHeartbeats 4000000 in
theorem qX6_readNumber (l : Launch) (D : va_G) (ids : Nat → ClassId) (b : Nat) {x2 : Int} (Rx2 : zR x2) {x3 : Int} (Rx3 : zR x3) {v v' : zHp} {r' : Int} (hv : zV 0 137 v) (h : fX6_readNumber v x2 x3 = some (v', r')) : zCT l yX6_readNumber vsX6_readNumber rmX6_readNumber D ids b 0 False 137 [zr 3, zr 1, zi x2, zi x3] v 137 (zV 0 137 v' ∧ zR r') (some (zi r')) v' 0 0 := by
  refine zMet (own := RX6) (by decide +kernel) (show vsX6_readNumber = _ from rfl) (Nat.le_of_ble_eq_true rfl) rfl ?_
  intro E hl hRm hD hids hb ho hz hN C hname ret
  subst hl hD hids hb
  unfold fX6_readNumber at h
  refine z_aload_n C (zd tX6_readNumber 0 rfl) rfl ?_
  refine gf_9_3 C (lg_1 ho) zic_9 (zm zwd_41) (zd tX6_readNumber 1 rfl) ?_
  refine z_iconst C (zd tX6_readNumber 2 rfl) ?_
  refine z_icmp_eq (tgt := 19) C (hv.1 _ _) (zR_c 2 rfl) (zd tX6_readNumber 3 rfl) (by decide) h (fun h => ?_) (fun h => ?_)
  · refine z_aload_n C (zd tX6_readNumber 11 rfl) rfl ?_
    obtain ⟨v1, r2, cv1, h⟩ := zcl_some h
    refine zc_V C ho hz hRm (qX9_value _ _ _ _ hv cv1) (lg_1 ho) (by decide) rfl (zgV zwd_547 zwd_548 zwd_549 zwd_2 zwd_550) rfl pX9_value rfl ⟨rfl, rfl⟩ ⟨Nat.le_of_ble_eq_true rfl, Nat.le_of_ble_eq_true rfl⟩ [] rfl (Nat.le_of_ble_eq_true rfl) (zd tX6_readNumber 12 rfl) [zi r2] rfl (fun p3 => ?_)
    refine z_istore C (zd tX6_readNumber 13 rfl) (by rw [hN]; decide) ?_
    refine z_iload C (zd tX6_readNumber 14 rfl) rfl ?_
    refine z_iload_n C (zd tX6_readNumber 15 rfl) rfl ?_
    refine z_icmp_lt (tgt := 37) C p3.2 Rx2 (zd tX6_readNumber 16 rfl) (by decide) h (fun h => ?_) (fun h => ?_)
    · refine z_sub (lo' := [some (zr 3), some (zr 1), none, none, some (zi r2)]) (zsub_s (zsub_s (zsub_n (zsub_n (zsub_s zsub_0))))) ?_
      exact jX6_readNumber_J37 C hN ho hz hRm ret v1 r2 h p3.1 p3.2
    · refine z_iload C (zd tX6_readNumber 17 rfl) rfl ?_
      refine z_iload_n C (zd tX6_readNumber 18 rfl) rfl ?_
      refine z_icmp_le (tgt := 46) C p3.2 Rx3 (zd tX6_readNumber 19 rfl) (by decide) h (fun h => ?_) (fun h => ?_)
      · refine z_sub (lo' := [some (zr 3), some (zr 1), none, none, some (zi r2)]) (zsub_s (zsub_s (zsub_n (zsub_n (zsub_s zsub_0))))) ?_
        exact jX6_readNumber_J46 C hN ho hz hRm ret v1 r2 h p3.1 p3.2
      · refine z_sub (lo' := [some (zr 3), some (zr 1), none, none, some (zi r2)]) (zsub_s (zsub_s (zsub_n (zsub_n (zsub_s zsub_0))))) ?_
        exact jX6_readNumber_J37 C hN ho hz hRm ret v1 r2 h p3.1 p3.2
  · refine z_aload_n C (zd tX6_readNumber 4 rfl) rfl ?_
    refine z_aload_n C (zd tX6_readNumber 5 rfl) rfl ?_
    refine gf_9_4 C (lg_1 ho) zic_9 (zm zwd_43) (zd tX6_readNumber 6 rfl) ?_
    refine z_iconst C (zd tX6_readNumber 7 rfl) ?_
    obtain ⟨v10, r11, cv10, h⟩ := zcl_some h
    refine zc_V C ho hz hRm (qX6_refuse _ _ _ _ (hv.1 _ _) (zR_c 1 rfl) hv cv10) (lg_3 ho) (by decide) rfl (zgV zwd_534 zwd_536 zws_3 zwd_3 zwd_537) rfl pX6_refuse rfl ⟨rfl, rfl⟩ ⟨Nat.le_of_ble_eq_true rfl, Nat.le_of_ble_eq_true rfl⟩ [] rfl (Nat.le_of_ble_eq_true rfl) (zd tX6_readNumber 8 rfl) [] rfl (fun p12 => ?_)
    refine z_iconst C (zd tX6_readNumber 9 rfl) ?_
    obtain ⟨rfl, rfl⟩ := zpi h
    exact ret.1 _ _ _ _ ⟨p12, (zR_c (-1) rfl)⟩ rfl rfl rfl (zd tX6_readNumber 10 rfl)
noncomputable def vsX9_tells : List Cond := .code yX9_tells cX9_tells 3 (some .boolean) :: zbig
abbrev rmX9_tells : Room := { frames := 4, cells := 0, slots := 0, locals := 85 }
theorem pX9_tells : yX9_tells.cls = RX9 ∧ yX9_tells.cls ≠ "java/lang/invoke/MethodHandle" ∧ yX9_tells.cls ≠ "java/lang/invoke/VarHandle" ∧ (parseMethodDescriptor yX9_tells.desc).map (fun d => d.parameters.length) = some 1 := by decide +kernel
set_option maxRecDepth 100000 in
set_option maxHeartbeats 4000000 in
theorem bX9_tells_L28 {E : zE} {ad adV : Nat → Nat} (C : zC E 137 cX9_tells RX9 vsX9_tells) (hN : zEN E = 3) (ho : zEo E = 0) (hz : zEz E = False) (hRm : zER E = rmX9_tells) (hZs : zStr ad adV (zEA E) (zEs E) (zEH E) ∧ zEH E = (zEs E).heap) : ∀ (fu : Nat) (v : zHp) (i1 : Nat) (x2 : Int) (res : ((zHp × Int) ⊕ (zHp × (Int)))), fX9_tells_L28 fu v i1 x2 = some res → zV 0 137 v → i1 < 14 → zR x2 → (∀ (w : zHp) (q : Int), res = .inr (w, q) → zV 0 137 w → True → zX E 0 0 137 w 63 [none, none, none] []) → (∀ (w : zHp) (r : Int), res = .inl (w, r) → zRet E cX9_tells 0 0 137 (some .boolean) (zV 0 137 w ∧ zR r) (some (zi r)) w) → zX E 0 0 137 v 28 [some (zr 1), some (zs (ad i1)), some (zi x2)] [] := by
  intro fu
  induction fu with
  | zero =>
    intro v _ _ res h
    cases h
  | succ fu ih =>
    intro v i1 x2 res h hv hi1 Rx2 K1 K2
    rw [fX9_tells_L28.eq_2] at h
    refine z_iload_n C (zd tX9_tells 16 rfl) rfl ?_
    refine z_aloadS_n C (zd tX9_tells 17 rfl) rfl ?_
    refine z_slen C hZs.1 hRm hi1 (zgV zwd_478 zwd_479 zwd_480 zwd_15 zwd_481) ⟨Nat.le_of_ble_eq_true rfl, Nat.le_of_ble_eq_true rfl⟩ (Nat.le_of_ble_eq_true rfl) (zd tX9_tells 18 rfl) ?_ ⟨Nat.zero_le _, Nat.zero_le _⟩ hZs.2
    refine z_icmp_ge (tgt := 63) C Rx2 (zs_len _).1 (zd tX9_tells 19 rfl) (by decide) h (fun h => ?_) (fun h => ?_)
    · refine z_sub (lo' := [none, none, none]) (zsub_n (zsub_n (zsub_n zsub_0))) ?_
      exact K1 _ _ (Option.some.inj h).symm hv trivial
    · refine z_aload_n C (zd tX9_tells 20 rfl) rfl ?_
      refine gl_9_0 (t := 2) C (lg_1 ho) zic_9 (zm zwd_37) (vl_9_0 ho hv (lg_1 ho)) (zd tX9_tells 21 rfl) ?_
      refine z_aload_n C (zd tX9_tells 22 rfl) rfl ?_
      refine gf_9_4 C (lg_1 ho) zic_9 (zm zwd_44) (zd tX9_tells 23 rfl) ?_
      refine z_iload_n C (zd tX9_tells 24 rfl) rfl ?_
      refine z_iadd C (zd tX9_tells 25 rfl) ?_
      obtain ⟨q2, h⟩ := zck_some h
      refine za_iald C (lg_2 ho) rfl (by decide) q2 (zd tX9_tells 26 rfl) ?_
      refine z_aloadS_n C (zd tX9_tells 27 rfl) rfl ?_
      refine z_iload_n C (zd tX9_tells 28 rfl) rfl ?_
      obtain ⟨q3, h⟩ := zck_some h
      refine z_sch C hZs.1 hRm hi1 q3 (zgV zwd_488 zwd_489 zwd_490 zwd_15 zwd_491) ⟨Nat.le_of_ble_eq_true rfl, Nat.le_of_ble_eq_true rfl⟩ (Nat.le_of_ble_eq_true rfl) (zd tX9_tells 29 rfl) ?_ ⟨Nat.zero_le _, Nat.zero_le _⟩ hZs.2
      refine z_icmp_eq (tgt := 57) C (hv.1 _ _) (zR_toInt _) (zd tX9_tells 30 rfl) (by decide) h (fun h => ?_) (fun h => ?_)
      · obtain ⟨t4, et4, Rt4, h⟩ := zn_some h
        refine z_iincE C (zd tX9_tells 33 rfl) (by rw [hN]; decide) rfl et4 ?_
        refine z_goto (tgt := 28) C (zd tX9_tells 34 rfl) (by decide) ?_
        refine z_sub (lo' := [some (zr 1), some (zs (ad i1)), some (zi t4)]) (zsub_s (zsub_s (zsub_s zsub_0))) ?_
        exact ih v i1 t4 _ h hv hi1 Rt4 K1 K2
      · refine z_iconst C (zd tX9_tells 31 rfl) ?_
        have K2 := K2 _ _ (Option.some.inj h).symm
        exact K2.1 _ _ _ _ ⟨hv, (zR_c 0 rfl)⟩ rfl rfl (by decide) (zd tX9_tells 32 rfl)
set_option maxRecDepth 100000 in
set_option maxHeartbeats 4000000 in
theorem qX9_tells (l : Launch) (D : va_G) (ids : Nat → ClassId) (b : Nat) (ad adV : Nat → Nat) {i1 : Nat} (hi1 : i1 < 14) {v v' : zHp} {r' : Int} (hv : zV 0 137 v) (h : fX9_tells v i1 = some (v', r')) : zCTS l yX9_tells vsX9_tells rmX9_tells D ids b 0 False ad adV 137 [zr 1, zs (ad i1)] v 137 (zV 0 137 v' ∧ zR r') (some (zi r')) v' 0 0 := by
  refine zMetS (own := RX9) (by decide +kernel) (show vsX9_tells = _ from rfl) (Nat.le_of_ble_eq_true rfl) rfl ?_
  intro E hl hRm hD hids hb ho hz hN C hZs hname ret
  subst hl hD hids hb
  unfold fX9_tells at h
  refine z_aload_n C (zd tX9_tells 0 rfl) rfl ?_
  refine gf_9_3 C (lg_1 ho) zic_9 (zm zwd_42) (zd tX9_tells 1 rfl) ?_
  refine z_iconst C (zd tX9_tells 2 rfl) ?_
  refine z_icmp_ne (tgt := 24) C (hv.1 _ _) (zR_c 1 rfl) (zd tX9_tells 3 rfl) (by decide) h (fun h => ?_) (fun h => ?_)
  · refine z_iconst C (zd tX9_tells 12 rfl) ?_
    obtain ⟨rfl, rfl⟩ := zpi h
    exact ret.1 _ _ _ _ ⟨hv, (zR_c 0 rfl)⟩ rfl rfl (by decide) (zd tX9_tells 13 rfl)
  · refine z_aload_n C (zd tX9_tells 4 rfl) rfl ?_
    refine gf_9_5 C (lg_1 ho) zic_9 (zm zwd_45) (zd tX9_tells 5 rfl) ?_
    refine z_aload_n C (zd tX9_tells 6 rfl) rfl ?_
    refine gf_9_4 C (lg_1 ho) zic_9 (zm zwd_44) (zd tX9_tells 7 rfl) ?_
    refine z_isub C (zd tX9_tells 8 rfl) ?_
    refine z_aloadS_n C (zd tX9_tells 9 rfl) rfl ?_
    refine z_slen C hZs.1 hRm hi1 (zgV zwd_478 zwd_479 zwd_480 zwd_15 zwd_481) ⟨Nat.le_of_ble_eq_true rfl, Nat.le_of_ble_eq_true rfl⟩ (Nat.le_of_ble_eq_true rfl) (zd tX9_tells 10 rfl) ?_ ⟨Nat.zero_le _, Nat.zero_le _⟩ hZs.2
    obtain ⟨t1, et1, Rt1, h⟩ := zn_some h
    refine z_n1 (congrArg zI et1.symm) ?_
    refine z_icmp_eq (tgt := 26) C Rt1 (zs_len _).1 (zd tX9_tells 11 rfl) (by decide) h (fun h => ?_) (fun h => ?_)
    · refine z_iconst C (zd tX9_tells 14 rfl) ?_
      refine z_istore_n C (zd tX9_tells 15 rfl) (by rw [hN]; decide) ?_
      refine z_sub (lo' := [some (zr 1), some (zs (ad i1)), some (zi 0)]) (zsub_s (zsub_s (zsub_s zsub_0))) ?_
      rcases zlf_some h with lv5 | ⟨v5, w6, lv5, h⟩
      · exact bX9_tells_L28 C hN ho hz hRm hZs zFU v i1 0 _ lv5 hv hi1 (zR_c 0 rfl) (fun _ _ e => by cases e) (fun _ _ e => by obtain ⟨rfl, rfl⟩ := zpp (Sum.inl.inj e); exact ret)
      · refine bX9_tells_L28 C hN ho hz hRm hZs zFU v i1 0 _ lv5 hv hi1 (zR_c 0 rfl) (fun w1 q1 e1 hv5 Rw6 => ?_) (fun _ _ e => by cases e)
        obtain ⟨rfl, rfl⟩ := zpp (Sum.inr.inj e1)
        refine z_iconst C (zd tX9_tells 35 rfl) ?_
        obtain ⟨rfl, rfl⟩ := zpi h
        exact ret.1 _ _ _ _ ⟨hv5, (zR_c 1 rfl)⟩ rfl rfl (by decide) (zd tX9_tells 36 rfl)
    · refine z_iconst C (zd tX9_tells 12 rfl) ?_
      obtain ⟨rfl, rfl⟩ := zpi h
      exact ret.1 _ _ _ _ ⟨hv, (zR_c 0 rfl)⟩ rfl rfl (by decide) (zd tX9_tells 13 rfl)
noncomputable def vsX6_readClock : List Cond := .code yX6_readClock cX6_readClock 6 none :: zbig
abbrev rmX6_readClock : Room := { frames := 5, cells := 0, slots := 0, locals := 107 }
theorem pX6_readClock : yX6_readClock.cls = RX6 ∧ yX6_readClock.cls ≠ "java/lang/invoke/MethodHandle" ∧ yX6_readClock.cls ≠ "java/lang/invoke/VarHandle" ∧ (parseMethodDescriptor yX6_readClock.desc).map (fun d => d.parameters.length) = some 2 := by decide +kernel
set_option maxRecDepth 100000 in
set_option maxHeartbeats 4000000 in
theorem jX6_readClock_J54 {E : zE} {ad adV : Nat → Nat} (C : zC E 137 cX6_readClock RX6 vsX6_readClock) (hN : zEN E = 6) (ho : zEo E = 0) (hz : zEz E = False) (hRm : zER E = rmX6_readClock) (hZs : zStr ad adV (zEA E) (zEs E) (zEH E) ∧ zEH E = (zEs E).heap) {v' : zHp} {r' : Int} (ret : zRet E cX6_readClock 0 0 137 none (zV 0 137 v') none v') (v : zHp) (a2 : Nat) (x3 : Int) (x4 : Int) (x5 : Int) (s2 : Int) (h : fX6_readClock_J54 v a2 x3 x4 x5 s2 = some (v', r')) (hv : zV 0 137 v) (ga2 : zG E 137 a2 7 10) (Rx3 : zR x3) (Rx4 : zR x4) (Rx5 : zR x5) (Rs2 : zR s2) : zX E 0 0 137 v 54 [none, none, some (zr a2), some (zi x3), some (zi x4), some (zi x5)] [zi s2, zr 1, zr 3] := by
  unfold fX6_readClock_J54 at h
  obtain ⟨v13, r14, cv13, h⟩ := zcl_some h
  refine zc_V C ho hz hRm (qX6_passIf _ _ _ _ Rs2 hv cv13) (lg_3 ho) (by decide) rfl (zgV zwd_538 zwd_540 zws_4 zwd_3 zwd_541) rfl pX6_passIf rfl ⟨rfl, rfl⟩ ⟨Nat.le_of_ble_eq_true rfl, Nat.le_of_ble_eq_true rfl⟩ [] rfl (Nat.le_of_ble_eq_true rfl) (zd tX6_readClock 31 rfl) [] rfl (fun p15 => ?_)
  refine z_aload_n C (zd tX6_readClock 32 rfl) rfl ?_
  refine gl_7_0 C ga2 zic_7 (zm zwd_152) (vl_7_0 ho p15 ga2) (zd tX6_readClock 33 rfl) ?_
  refine z_iload_n C (zd tX6_readClock 34 rfl) rfl ?_
  refine z_iload C (zd tX6_readClock 35 rfl) rfl ?_
  refine z_iload C (zd tX6_readClock 36 rfl) rfl ?_
  refine z_if_eq (tgt := 73) C Rx5 (zd tX6_readClock 37 rfl) (by decide) h (fun h => ?_) (fun h => ?_)
  · refine z_iconst C (zd tX6_readClock 40 rfl) ?_
    obtain ⟨v16, r17, cv16, h⟩ := zcl_some h
    refine zc_V C ho hz hRm (qX2_set _ _ _ _ (lk_7_0 ho ga2).1 Rx3 Rx4 (zR_c 0 rfl) p15 cv16) (lk_7_0 ho ga2) (by decide) rfl (zgV zwd_553 zwd_145 zwd_146 zwd_5 zwd_147) rfl pX2_set rfl ⟨rfl, rfl⟩ ⟨Nat.le_of_ble_eq_true rfl, Nat.le_of_ble_eq_true rfl⟩ [] rfl (Nat.le_of_ble_eq_true rfl) (zd tX6_readClock 41 rfl) [] rfl (fun p18 => ?_)
    obtain ⟨rfl, rfl⟩ := zpi h
    exact ret.2.1 _ _ p18 rfl rfl (zd tX6_readClock 42 rfl)
  · refine z_iconst C (zd tX6_readClock 38 rfl) ?_
    refine z_goto (tgt := 74) C (zd tX6_readClock 39 rfl) (by decide) ?_
    obtain ⟨v19, r20, cv19, h⟩ := zcl_some h
    refine zc_V C ho hz hRm (qX2_set _ _ _ _ (lk_7_0 ho ga2).1 Rx3 Rx4 (zR_c 1 rfl) p15 cv19) (lk_7_0 ho ga2) (by decide) rfl (zgV zwd_553 zwd_145 zwd_146 zwd_5 zwd_147) rfl pX2_set rfl ⟨rfl, rfl⟩ ⟨Nat.le_of_ble_eq_true rfl, Nat.le_of_ble_eq_true rfl⟩ [] rfl (Nat.le_of_ble_eq_true rfl) (zd tX6_readClock 41 rfl) [] rfl (fun p21 => ?_)
    obtain ⟨rfl, rfl⟩ := zpi h
    exact ret.2.1 _ _ p21 rfl rfl (zd tX6_readClock 42 rfl)
set_option maxRecDepth 100000 in
set_option maxHeartbeats 4000000 in
theorem jX6_readClock_J49 {E : zE} {ad adV : Nat → Nat} (C : zC E 137 cX6_readClock RX6 vsX6_readClock) (hN : zEN E = 6) (ho : zEo E = 0) (hz : zEz E = False) (hRm : zER E = rmX6_readClock) (hZs : zStr ad adV (zEA E) (zEs E) (zEH E) ∧ zEH E = (zEs E).heap) {v' : zHp} {r' : Int} (ret : zRet E cX6_readClock 0 0 137 none (zV 0 137 v') none v') (v : zHp) (a2 : Nat) (x3 : Int) (x4 : Int) (x5 : Int) (h : fX6_readClock_J49 v a2 x3 x4 x5 = some (v', r')) (hv : zV 0 137 v) (ga2 : zG E 137 a2 7 10) (Rx3 : zR x3) (Rx4 : zR x4) (Rx5 : zR x5) : zX E 0 0 137 v 49 [none, none, some (zr a2), some (zi x3), some (zi x4), some (zi x5)] [zr 1, zr 3] := by
  unfold fX6_readClock_J49 at h
  refine z_iconst C (zd tX6_readClock 28 rfl) ?_
  refine z_goto (tgt := 54) C (zd tX6_readClock 29 rfl) (by decide) ?_
  refine z_sub (lo' := [none, none, some (zr a2), some (zi x3), some (zi x4), some (zi x5)]) (zsub_n (zsub_n (zsub_s (zsub_s (zsub_s (zsub_s zsub_0)))))) ?_
  exact jX6_readClock_J54 C hN ho hz hRm hZs ret v a2 x3 x4 x5 1 h hv ga2 Rx3 Rx4 Rx5 (zR_c 1 rfl)
set_option maxRecDepth 100000 in
set_option maxHeartbeats 4000000 in
theorem qX6_readClock (l : Launch) (D : va_G) (ids : Nat → ClassId) (b : Nat) (ad adV : Nat → Nat) {a2 : Nat} (k2 : zK a2 = (7, 10)) {v v' : zHp} {r' : Int} (hv : zV 0 137 v) (h : fX6_readClock v a2 = some (v', r')) : zCTS l yX6_readClock vsX6_readClock rmX6_readClock D ids b 0 False ad adV 137 [zr 3, zr 1, zr a2] v 137 (zV 0 137 v') none v' 0 0 := by
  refine zMetS (own := RX6) (by decide +kernel) (show vsX6_readClock = _ from rfl) (Nat.le_of_ble_eq_true rfl) rfl ?_
  intro E hl hRm hD hids hb ho hz hN C hZs hname ret
  subst hl hD hids hb
  have ga2 := kg_7 ho k2
  unfold fX6_readClock at h
  refine z_aload_n C (zd tX6_readClock 0 rfl) rfl ?_
  refine z_aload_n C (zd tX6_readClock 1 rfl) rfl ?_
  refine z_iconst C (zd tX6_readClock 2 rfl) ?_
  obtain ⟨v1, r2, cv1, h⟩ := zcl_some h
  refine zc_V C ho hz hRm (qX6_passOnce _ _ _ _ (zR_c 1 rfl) hv cv1) (lg_3 ho) (by decide) rfl (zgV zwd_530 zwd_532 zws_2 zwd_3 zwd_533) rfl pX6_passOnce rfl ⟨rfl, rfl⟩ ⟨Nat.le_of_ble_eq_true rfl, Nat.le_of_ble_eq_true rfl⟩ [] rfl (Nat.le_of_ble_eq_true rfl) (zd tX6_readClock 3 rfl) [] rfl (fun p3 => ?_)
  refine z_aload_n C (zd tX6_readClock 4 rfl) rfl ?_
  refine z_aload_n C (zd tX6_readClock 5 rfl) rfl ?_
  refine z_iconst C (zd tX6_readClock 6 rfl) ?_
  refine z_bipush C (by decide) (zd tX6_readClock 7 rfl) ?_
  obtain ⟨v4, r5, cv4, h⟩ := zcl_some h
  refine zc_V C ho hz hRm (qX6_readNumber _ _ _ _ (zR_c 0 rfl) (zR_c 27 rfl) p3 cv4) (lg_3 ho) (by decide) rfl (zgV zwd_543 zwd_545 zws_5 zwd_3 zwd_546) rfl pX6_readNumber rfl ⟨rfl, rfl⟩ ⟨Nat.le_of_ble_eq_true rfl, Nat.le_of_ble_eq_true rfl⟩ [] rfl (Nat.le_of_ble_eq_true rfl) (zd tX6_readClock 8 rfl) [zi r5] rfl (fun p6 => ?_)
  refine z_istore_n C (zd tX6_readClock 9 rfl) (by rw [hN]; decide) ?_
  refine z_aload_n C (zd tX6_readClock 10 rfl) rfl ?_
  refine z_aload_n C (zd tX6_readClock 11 rfl) rfl ?_
  refine z_iconst C (zd tX6_readClock 12 rfl) ?_
  refine z_bipush C (by decide) (zd tX6_readClock 13 rfl) ?_
  obtain ⟨v7, r8, cv7, h⟩ := zcl_some h
  refine zc_V C ho hz hRm (qX6_readNumber _ _ _ _ (zR_c 0 rfl) (zR_c 23 rfl) p6.1 cv7) (lg_3 ho) (by decide) rfl (zgV zwd_543 zwd_545 zws_5 zwd_3 zwd_546) rfl pX6_readNumber rfl ⟨rfl, rfl⟩ ⟨Nat.le_of_ble_eq_true rfl, Nat.le_of_ble_eq_true rfl⟩ [] rfl (Nat.le_of_ble_eq_true rfl) (zd tX6_readClock 14 rfl) [zi r8] rfl (fun p9 => ?_)
  refine z_istore C (zd tX6_readClock 15 rfl) (by rw [hN]; decide) ?_
  refine z_aload_n C (zd tX6_readClock 16 rfl) rfl ?_
  refine z_ldcS C hZs.1 (i := 1) (by decide) rfl (zd tX6_readClock 17 rfl) ?_
  obtain ⟨v10, r11, cv10, h⟩ := zcl_some h
  refine zc_VS C hZs.1 ho hz hRm (qX9_tells _ _ _ _ _ _ (by decide) p9.1 cv10) (lg_1 ho) (by decide) rfl (zgV zwd_474 zwd_475 zwd_476 zwd_2 zwd_477) rfl pX9_tells rfl ⟨rfl, rfl⟩ ⟨Nat.le_of_ble_eq_true rfl, Nat.le_of_ble_eq_true rfl⟩ [] rfl (Nat.le_of_ble_eq_true rfl) (zd tX6_readClock 18 rfl) [zi r11] rfl (fun p12 => ?_)
  refine z_istore C (zd tX6_readClock 19 rfl) (by rw [hN]; decide) ?_
  refine z_aload_n C (zd tX6_readClock 20 rfl) rfl ?_
  refine z_aload_n C (zd tX6_readClock 21 rfl) rfl ?_
  refine z_iload C (zd tX6_readClock 22 rfl) rfl ?_
  refine z_if_ne (tgt := 49) C p12.2 (zd tX6_readClock 23 rfl) (by decide) h (fun h => ?_) (fun h => ?_)
  · refine z_sub (lo' := [none, none, some (zr a2), some (zi r5), some (zi r8), some (zi r11)]) (zsub_n (zsub_n (zsub_s (zsub_s (zsub_s (zsub_s zsub_0)))))) ?_
    exact jX6_readClock_J49 C hN ho hz hRm hZs ret v10 a2 r5 r8 r11 h p12.1 ga2 p6.2 p9.2 p12.2
  · refine z_aload_n C (zd tX6_readClock 24 rfl) rfl ?_
    refine z_ldcS C hZs.1 (i := 2) (by decide) rfl (zd tX6_readClock 25 rfl) ?_
    obtain ⟨v22, r23, cv22, h⟩ := zcl_some h
    refine zc_VS C hZs.1 ho hz hRm (qX9_tells _ _ _ _ _ _ (by decide) p12.1 cv22) (lg_1 ho) (by decide) rfl (zgV zwd_474 zwd_475 zwd_476 zwd_2 zwd_477) rfl pX9_tells rfl ⟨rfl, rfl⟩ ⟨Nat.le_of_ble_eq_true rfl, Nat.le_of_ble_eq_true rfl⟩ [zr 1, zr 3] rfl (Nat.le_of_ble_eq_true rfl) (zd tX6_readClock 26 rfl) [zi r23, zr 1, zr 3] rfl (fun p24 => ?_)
    refine z_if_eq (tgt := 53) C p24.2 (zd tX6_readClock 27 rfl) (by decide) h (fun h => ?_) (fun h => ?_)
    · refine z_iconst C (zd tX6_readClock 30 rfl) ?_
      refine z_sub (lo' := [none, none, some (zr a2), some (zi r5), some (zi r8), some (zi r11)]) (zsub_n (zsub_n (zsub_s (zsub_s (zsub_s (zsub_s zsub_0)))))) ?_
      exact jX6_readClock_J54 C hN ho hz hRm hZs ret v22 a2 r5 r8 r11 0 h p24.1 ga2 p6.2 p9.2 p12.2 (zR_c 0 rfl)
    · refine z_sub (lo' := [none, none, some (zr a2), some (zi r5), some (zi r8), some (zi r11)]) (zsub_n (zsub_n (zsub_s (zsub_s (zsub_s (zsub_s zsub_0)))))) ?_
      exact jX6_readClock_J49 C hN ho hz hRm hZs ret v22 a2 r5 r8 r11 h p24.1 ga2 p6.2 p9.2 p12.2
noncomputable def vsX6_readHoliday : List Cond := .code yX6_readHoliday cX6_readHoliday 5 none :: zbig
abbrev rmX6_readHoliday : Room := { frames := 3, cells := 0, slots := 0, locals := 65 }
theorem pX6_readHoliday : yX6_readHoliday.cls = RX6 ∧ yX6_readHoliday.cls ≠ "java/lang/invoke/MethodHandle" ∧ yX6_readHoliday.cls ≠ "java/lang/invoke/VarHandle" ∧ (parseMethodDescriptor yX6_readHoliday.desc).map (fun d => d.parameters.length) = some 2 := by decide +kernel
set_option maxRecDepth 100000 in
set_option maxHeartbeats 4000000 in
theorem jX6_readHoliday_J52 {E : zE} (C : zC E 137 cX6_readHoliday RX6 vsX6_readHoliday) (hN : zEN E = 5) (ho : zEo E = 0) (hz : zEz E = False) (hRm : zER E = rmX6_readHoliday) {v' : zHp} {r' : Int} (ret : zRet E cX6_readHoliday 0 0 137 none (zV 0 137 v') none v') (v : zHp) (a2 : Nat) (x4 : Int) (h : fX6_readHoliday_J52 v a2 x4 = some (v', r')) (hv : zV 0 137 v) (ga2 : zG E 137 a2 7 10) (Rx4 : zR x4) : zX E 0 0 137 v 52 [none, none, some (zr a2), none, some (zi x4)] [] := by
  unfold fX6_readHoliday_J52 at h
  refine z_aload_n C (zd tX6_readHoliday 29 rfl) rfl ?_
  refine gl_7_3 C ga2 zic_7 (zm zwd_162) (vl_7_3 ho hv ga2) (zd tX6_readHoliday 30 rfl) ?_
  refine z_aload_n C (zd tX6_readHoliday 31 rfl) rfl ?_
  refine gf_7_4 C ga2 zic_7 (zm zwd_164) (zd tX6_readHoliday 32 rfl) ?_
  refine z_iload C (zd tX6_readHoliday 33 rfl) rfl ?_
  obtain ⟨q10, h⟩ := zck_some h
  obtain ⟨v11, ev11, h⟩ := zb_some h
  have hv11 : zV 0 137 v11 := by rw [ev11]; exact hv.st Rx4 (lk_7_3 ho ga2).1 (Or.inr rfl)
  refine za_iast C (lk_7_3 ho ga2) rfl (by decide) q10 ev11 (zd tX6_readHoliday 34 rfl) ?_
  refine z_aload_n C (zd tX6_readHoliday 35 rfl) rfl ?_
  refine z_dup C (zd tX6_readHoliday 36 rfl) ?_
  refine gf_7_4 C ga2 zic_7 (zm zwd_164) (zd tX6_readHoliday 37 rfl) ?_
  refine z_iconst C (zd tX6_readHoliday 38 rfl) ?_
  refine z_iadd C (zd tX6_readHoliday 39 rfl) ?_
  obtain ⟨t12, et12, Rt12, h⟩ := zn_some h
  refine z_n0 (congrArg zI et12.symm) ?_
  obtain ⟨v13, ev13, h⟩ := zb_some h
  have hv13 : zV 0 137 v13 := by rw [ev13]; exact hv11.st Rt12 ga2.1 (Or.inr rfl)
  refine pf_7_4 C ga2 zic_7 (zm zwd_164) ev13 (zd tX6_readHoliday 40 rfl) ?_
  obtain ⟨rfl, rfl⟩ := zpi h
  exact ret.2.1 _ _ hv13 rfl rfl (zd tX6_readHoliday 41 rfl)
set_option maxRecDepth 100000 in
set_option maxHeartbeats 4000000 in
theorem qX6_readHoliday (l : Launch) (D : va_G) (ids : Nat → ClassId) (b : Nat) {a2 : Nat} (k2 : zK a2 = (7, 10)) {v v' : zHp} {r' : Int} (hv : zV 0 137 v) (h : fX6_readHoliday v a2 = some (v', r')) : zCT l yX6_readHoliday vsX6_readHoliday rmX6_readHoliday D ids b 0 False 137 [zr 3, zr 1, zr a2] v 137 (zV 0 137 v') none v' 0 0 := by
  refine zMet (own := RX6) (by decide +kernel) (show vsX6_readHoliday = _ from rfl) (Nat.le_of_ble_eq_true rfl) rfl ?_
  intro E hl hRm hD hids hb ho hz hN C hname ret
  subst hl hD hids hb
  have ga2 := kg_7 ho k2
  unfold fX6_readHoliday at h
  refine z_aload_n C (zd tX6_readHoliday 0 rfl) rfl ?_
  refine gf_7_4 C ga2 zic_7 (zm zwd_164) (zd tX6_readHoliday 1 rfl) ?_
  refine z_iconst C (zd tX6_readHoliday 2 rfl) ?_
  refine z_icmp_lt (tgt := 18) C (hv.1 _ _) (zR_c 4 rfl) (zd tX6_readHoliday 3 rfl) (by decide) h (fun h => ?_) (fun h => ?_)
  · refine z_aload_n C (zd tX6_readHoliday 10 rfl) rfl ?_
    obtain ⟨v1, r2, cv1, h⟩ := zcl_some h
    refine zc_V C ho hz hRm (qX9_advance _ _ _ _ hv cv1) (lg_1 ho) (by decide) rfl (zgV zwd_542 zwd_460 zwd_461 zwd_2 zwd_462) rfl pX9_advance rfl ⟨rfl, rfl⟩ ⟨Nat.le_of_ble_eq_true rfl, Nat.le_of_ble_eq_true rfl⟩ [] rfl (Nat.le_of_ble_eq_true rfl) (zd tX6_readHoliday 11 rfl) [] rfl (fun p3 => ?_)
    refine z_aload_n C (zd tX6_readHoliday 12 rfl) rfl ?_
    refine gf_9_4 C (lg_1 ho) zic_9 (zm zwd_43) (zd tX6_readHoliday 13 rfl) ?_
    refine z_istore_n C (zd tX6_readHoliday 14 rfl) (by rw [hN]; decide) ?_
    refine z_aload_n C (zd tX6_readHoliday 15 rfl) rfl ?_
    refine z_aload_n C (zd tX6_readHoliday 16 rfl) rfl ?_
    refine z_iconst C (zd tX6_readHoliday 17 rfl) ?_
    refine z_bipush C (by decide) (zd tX6_readHoliday 18 rfl) ?_
    obtain ⟨v4, r5, cv4, h⟩ := zcl_some h
    refine zc_V C ho hz hRm (qX6_readNumber _ _ _ _ (zR_c 0 rfl) (zR_c 27 rfl) p3 cv4) (lg_3 ho) (by decide) rfl (zgV zwd_543 zwd_545 zws_5 zwd_3 zwd_546) rfl pX6_readNumber rfl ⟨rfl, rfl⟩ ⟨Nat.le_of_ble_eq_true rfl, Nat.le_of_ble_eq_true rfl⟩ [] rfl (Nat.le_of_ble_eq_true rfl) (zd tX6_readHoliday 19 rfl) [zi r5] rfl (fun p6 => ?_)
    refine z_istore C (zd tX6_readHoliday 20 rfl) (by rw [hN]; decide) ?_
    refine z_aload_n C (zd tX6_readHoliday 21 rfl) rfl ?_
    refine z_iload C (zd tX6_readHoliday 22 rfl) rfl ?_
    obtain ⟨v7, r8, cv7, h⟩ := zcl_some h
    refine zc_V C ho hz hRm (qX7_isHoliday _ _ _ _ ga2.1 p6.2 p6.1 cv7) ga2 (by decide) rfl (zgV zwd_559 zwd_560 zwd_561 zwd_4 zwd_562) rfl pX7_isHoliday rfl ⟨rfl, rfl⟩ ⟨Nat.le_of_ble_eq_true rfl, Nat.le_of_ble_eq_true rfl⟩ [] rfl (Nat.le_of_ble_eq_true rfl) (zd tX6_readHoliday 23 rfl) [zi r8] rfl (fun p9 => ?_)
    refine z_if_eq (tgt := 52) C p9.2 (zd tX6_readHoliday 24 rfl) (by decide) h (fun h => ?_) (fun h => ?_)
    · refine z_sub (lo' := [none, none, some (zr a2), none, some (zi r5)]) (zsub_n (zsub_n (zsub_s (zsub_n (zsub_s zsub_0))))) ?_
      exact jX6_readHoliday_J52 C hN ho hz hRm ret v7 a2 r5 h p9.1 ga2 p6.2
    · refine z_aload_n C (zd tX6_readHoliday 25 rfl) rfl ?_
      refine z_iload_n C (zd tX6_readHoliday 26 rfl) rfl ?_
      refine z_iconst C (zd tX6_readHoliday 27 rfl) ?_
      obtain ⟨v14, r15, cv14, h⟩ := zcl_some h
      refine zc_V C ho hz hRm (qX6_refuse _ _ _ _ (p3.1 _ _) (zR_c 2 rfl) p9.1 cv14) (lg_3 ho) (by decide) rfl (zgV zwd_534 zwd_536 zws_3 zwd_3 zwd_537) rfl pX6_refuse rfl ⟨rfl, rfl⟩ ⟨Nat.le_of_ble_eq_true rfl, Nat.le_of_ble_eq_true rfl⟩ [] rfl (Nat.le_of_ble_eq_true rfl) (zd tX6_readHoliday 28 rfl) [] rfl (fun p16 => ?_)
      refine z_sub (lo' := [none, none, some (zr a2), none, some (zi r5)]) (zsub_n (zsub_n (zsub_s (zsub_n (zsub_s zsub_0))))) ?_
      exact jX6_readHoliday_J52 C hN ho hz hRm ret v14 a2 r5 h p16 ga2 p6.2
  · refine z_aload_n C (zd tX6_readHoliday 4 rfl) rfl ?_
    refine z_aload_n C (zd tX6_readHoliday 5 rfl) rfl ?_
    refine gf_9_4 C (lg_1 ho) zic_9 (zm zwd_43) (zd tX6_readHoliday 6 rfl) ?_
    refine z_iconst C (zd tX6_readHoliday 7 rfl) ?_
    obtain ⟨v17, r18, cv17, h⟩ := zcl_some h
    refine zc_V C ho hz hRm (qX6_refuse _ _ _ _ (hv.1 _ _) (zR_c 3 rfl) hv cv17) (lg_3 ho) (by decide) rfl (zgV zwd_534 zwd_536 zws_3 zwd_3 zwd_537) rfl pX6_refuse rfl ⟨rfl, rfl⟩ ⟨Nat.le_of_ble_eq_true rfl, Nat.le_of_ble_eq_true rfl⟩ [] rfl (Nat.le_of_ble_eq_true rfl) (zd tX6_readHoliday 8 rfl) [] rfl (fun p19 => ?_)
    obtain ⟨rfl, rfl⟩ := zpi h
    exact ret.2.1 _ _ p19 rfl rfl (zd tX6_readHoliday 9 rfl)
noncomputable def vsX6_kindOf : List Cond := .code yX6_kindOf cX6_kindOf 1 (some .int) :: zbig
abbrev rmX6_kindOf : Room := { frames := 5, cells := 0, slots := 0, locals := 107 }
theorem pX6_kindOf : yX6_kindOf.cls = RX6 ∧ yX6_kindOf.cls ≠ "java/lang/invoke/MethodHandle" ∧ yX6_kindOf.cls ≠ "java/lang/invoke/VarHandle" ∧ (parseMethodDescriptor yX6_kindOf.desc).map (fun d => d.parameters.length) = some 1 := by decide +kernel
set_option maxRecDepth 100000 in
set_option maxHeartbeats 4000000 in
theorem qX6_kindOf (l : Launch) (D : va_G) (ids : Nat → ClassId) (b : Nat) (ad adV : Nat → Nat)  {v v' : zHp} {r' : Int} (hv : zV 0 137 v) (h : fX6_kindOf v = some (v', r')) : zCTS l yX6_kindOf vsX6_kindOf rmX6_kindOf D ids b 0 False ad adV 137 [zr 1] v 137 (zV 0 137 v' ∧ zR r') (some (zi r')) v' 0 0 := by
  refine zMetS (own := RX6) (by decide +kernel) (show vsX6_kindOf = _ from rfl) (Nat.le_of_ble_eq_true rfl) rfl ?_
  intro E hl hRm hD hids hb ho hz hN C hZs hname ret
  subst hl hD hids hb
  unfold fX6_kindOf at h
  refine z_aload_n C (zd tX6_kindOf 0 rfl) rfl ?_
  refine z_ldcS C hZs.1 (i := 9) (by decide) rfl (zd tX6_kindOf 1 rfl) ?_
  obtain ⟨v1, r2, cv1, h⟩ := zcl_some h
  refine zc_VS C hZs.1 ho hz hRm (qX9_tells _ _ _ _ _ _ (by decide) hv cv1) (lg_1 ho) (by decide) rfl (zgV zwd_474 zwd_475 zwd_476 zwd_2 zwd_477) rfl pX9_tells rfl ⟨rfl, rfl⟩ ⟨Nat.le_of_ble_eq_true rfl, Nat.le_of_ble_eq_true rfl⟩ [] rfl (Nat.le_of_ble_eq_true rfl) (zd tX6_kindOf 2 rfl) [zi r2] rfl (fun p3 => ?_)
  refine z_if_eq (tgt := 13) C p3.2 (zd tX6_kindOf 3 rfl) (by decide) h (fun h => ?_) (fun h => ?_)
  · refine z_aload_n C (zd tX6_kindOf 6 rfl) rfl ?_
    refine z_ldcS C hZs.1 (i := 10) (by decide) rfl (zd tX6_kindOf 7 rfl) ?_
    obtain ⟨v4, r5, cv4, h⟩ := zcl_some h
    refine zc_VS C hZs.1 ho hz hRm (qX9_tells _ _ _ _ _ _ (by decide) p3.1 cv4) (lg_1 ho) (by decide) rfl (zgV zwd_474 zwd_475 zwd_476 zwd_2 zwd_477) rfl pX9_tells rfl ⟨rfl, rfl⟩ ⟨Nat.le_of_ble_eq_true rfl, Nat.le_of_ble_eq_true rfl⟩ [] rfl (Nat.le_of_ble_eq_true rfl) (zd tX6_kindOf 8 rfl) [zi r5] rfl (fun p6 => ?_)
    refine z_if_eq (tgt := 26) C p6.2 (zd tX6_kindOf 9 rfl) (by decide) h (fun h => ?_) (fun h => ?_)
    · refine z_aload_n C (zd tX6_kindOf 12 rfl) rfl ?_
      refine z_ldcS C hZs.1 (i := 11) (by decide) rfl (zd tX6_kindOf 13 rfl) ?_
      obtain ⟨v7, r8, cv7, h⟩ := zcl_some h
      refine zc_VS C hZs.1 ho hz hRm (qX9_tells _ _ _ _ _ _ (by decide) p6.1 cv7) (lg_1 ho) (by decide) rfl (zgV zwd_474 zwd_475 zwd_476 zwd_2 zwd_477) rfl pX9_tells rfl ⟨rfl, rfl⟩ ⟨Nat.le_of_ble_eq_true rfl, Nat.le_of_ble_eq_true rfl⟩ [] rfl (Nat.le_of_ble_eq_true rfl) (zd tX6_kindOf 14 rfl) [zi r8] rfl (fun p9 => ?_)
      refine z_if_eq (tgt := 39) C p9.2 (zd tX6_kindOf 15 rfl) (by decide) h (fun h => ?_) (fun h => ?_)
      · refine z_aload_n C (zd tX6_kindOf 18 rfl) rfl ?_
        refine z_ldcS C hZs.1 (i := 12) (by decide) rfl (zd tX6_kindOf 19 rfl) ?_
        obtain ⟨v10, r11, cv10, h⟩ := zcl_some h
        refine zc_VS C hZs.1 ho hz hRm (qX9_tells _ _ _ _ _ _ (by decide) p9.1 cv10) (lg_1 ho) (by decide) rfl (zgV zwd_474 zwd_475 zwd_476 zwd_2 zwd_477) rfl pX9_tells rfl ⟨rfl, rfl⟩ ⟨Nat.le_of_ble_eq_true rfl, Nat.le_of_ble_eq_true rfl⟩ [] rfl (Nat.le_of_ble_eq_true rfl) (zd tX6_kindOf 20 rfl) [zi r11] rfl (fun p12 => ?_)
        refine z_if_eq (tgt := 52) C p12.2 (zd tX6_kindOf 21 rfl) (by decide) h (fun h => ?_) (fun h => ?_)
        · refine z_aload_n C (zd tX6_kindOf 24 rfl) rfl ?_
          refine z_ldcS C hZs.1 (i := 3) (by decide) rfl (zd tX6_kindOf 25 rfl) ?_
          obtain ⟨v13, r14, cv13, h⟩ := zcl_some h
          refine zc_VS C hZs.1 ho hz hRm (qX9_tells _ _ _ _ _ _ (by decide) p12.1 cv13) (lg_1 ho) (by decide) rfl (zgV zwd_474 zwd_475 zwd_476 zwd_2 zwd_477) rfl pX9_tells rfl ⟨rfl, rfl⟩ ⟨Nat.le_of_ble_eq_true rfl, Nat.le_of_ble_eq_true rfl⟩ [] rfl (Nat.le_of_ble_eq_true rfl) (zd tX6_kindOf 26 rfl) [zi r14] rfl (fun p15 => ?_)
          refine z_if_eq (tgt := 65) C p15.2 (zd tX6_kindOf 27 rfl) (by decide) h (fun h => ?_) (fun h => ?_)
          · refine z_iconst C (zd tX6_kindOf 30 rfl) ?_
            obtain ⟨rfl, rfl⟩ := zpi h
            exact ret.1 _ _ _ _ ⟨p15.1, (zR_c (-1) rfl)⟩ rfl rfl rfl (zd tX6_kindOf 31 rfl)
          · refine z_iconst C (zd tX6_kindOf 28 rfl) ?_
            refine z_goto (tgt := 66) C (zd tX6_kindOf 29 rfl) (by decide) ?_
            obtain ⟨rfl, rfl⟩ := zpi h
            exact ret.1 _ _ _ _ ⟨p15.1, (zR_c 4 rfl)⟩ rfl rfl rfl (zd tX6_kindOf 31 rfl)
        · refine z_iconst C (zd tX6_kindOf 22 rfl) ?_
          refine z_goto (tgt := 66) C (zd tX6_kindOf 23 rfl) (by decide) ?_
          obtain ⟨rfl, rfl⟩ := zpi h
          exact ret.1 _ _ _ _ ⟨p12.1, (zR_c 3 rfl)⟩ rfl rfl rfl (zd tX6_kindOf 31 rfl)
      · refine z_iconst C (zd tX6_kindOf 16 rfl) ?_
        refine z_goto (tgt := 66) C (zd tX6_kindOf 17 rfl) (by decide) ?_
        obtain ⟨rfl, rfl⟩ := zpi h
        exact ret.1 _ _ _ _ ⟨p9.1, (zR_c 2 rfl)⟩ rfl rfl rfl (zd tX6_kindOf 31 rfl)
    · refine z_iconst C (zd tX6_kindOf 10 rfl) ?_
      refine z_goto (tgt := 66) C (zd tX6_kindOf 11 rfl) (by decide) ?_
      obtain ⟨rfl, rfl⟩ := zpi h
      exact ret.1 _ _ _ _ ⟨p6.1, (zR_c 1 rfl)⟩ rfl rfl rfl (zd tX6_kindOf 31 rfl)
  · refine z_iconst C (zd tX6_kindOf 4 rfl) ?_
    refine z_goto (tgt := 66) C (zd tX6_kindOf 5 rfl) (by decide) ?_
    obtain ⟨rfl, rfl⟩ := zpi h
    exact ret.1 _ _ _ _ ⟨p3.1, (zR_c 0 rfl)⟩ rfl rfl rfl (zd tX6_kindOf 31 rfl)
noncomputable def vsX6_readKind : List Cond := .code yX6_readKind cX6_readKind 4 none :: zbig
abbrev rmX6_readKind : Room := { frames := 6, cells := 0, slots := 0, locals := 127 }
theorem pX6_readKind : yX6_readKind.cls = RX6 ∧ yX6_readKind.cls ≠ "java/lang/invoke/MethodHandle" ∧ yX6_readKind.cls ≠ "java/lang/invoke/VarHandle" ∧ (parseMethodDescriptor yX6_readKind.desc).map (fun d => d.parameters.length) = some 2 := by decide +kernel
set_option maxRecDepth 100000 in
set_option maxHeartbeats 4000000 in
theorem jX6_readKind_J33 {E : zE} {ad adV : Nat → Nat} (C : zC E 137 cX6_readKind RX6 vsX6_readKind) (hN : zEN E = 4) (ho : zEo E = 0) (hz : zEz E = False) (hRm : zER E = rmX6_readKind) (hZs : zStr ad adV (zEA E) (zEs E) (zEH E) ∧ zEH E = (zEs E).heap) {v' : zHp} {r' : Int} (ret : zRet E cX6_readKind 0 0 137 none (zV 0 137 v') none v') (v : zHp) (a2 : Nat) (s2 : Int) (h : fX6_readKind_J33 v a2 s2 = some (v', r')) (hv : zV 0 137 v) (ga2 : zG E 137 a2 5 5) (Rs2 : zR s2) : zX E 0 0 137 v 33 [some (zr 3), some (zr 1), some (zr a2), none] [zi s2, zr 1, zr 3] := by
  unfold fX6_readKind_J33 at h
  obtain ⟨v7, r8, cv7, h⟩ := zcl_some h
  refine zc_V C ho hz hRm (qX6_passIf _ _ _ _ Rs2 hv cv7) (lg_3 ho) (by decide) rfl (zgV zwd_538 zwd_540 zws_4 zwd_3 zwd_541) rfl pX6_passIf rfl ⟨rfl, rfl⟩ ⟨Nat.le_of_ble_eq_true rfl, Nat.le_of_ble_eq_true rfl⟩ [] rfl (Nat.le_of_ble_eq_true rfl) (zd tX6_readKind 19 rfl) [] rfl (fun p9 => ?_)
  refine z_aload_n C (zd tX6_readKind 20 rfl) rfl ?_
  refine gf_5_0 C ga2 zic_5 (zm zwd_112) (zd tX6_readKind 21 rfl) ?_
  refine z_if_ne (tgt := 58) C (p9.1 _ _) (zd tX6_readKind 22 rfl) (by decide) h (fun h => ?_) (fun h => ?_)
  · refine z_aload_n C (zd tX6_readKind 31 rfl) rfl ?_
    refine gf_5_0 C ga2 zic_5 (zm zwd_112) (zd tX6_readKind 32 rfl) ?_
    refine z_iconst C (zd tX6_readKind 33 rfl) ?_
    refine z_icmp_ne (tgt := 82) C (p9.1 _ _) (zR_c 1 rfl) (zd tX6_readKind 34 rfl) (by decide) h (fun h => ?_) (fun h => ?_)
    · refine z_aload_n C (zd tX6_readKind 43 rfl) rfl ?_
      refine gf_5_0 C ga2 zic_5 (zm zwd_112) (zd tX6_readKind 44 rfl) ?_
      refine z_iconst C (zd tX6_readKind 45 rfl) ?_
      refine z_icmp_ne (tgt := 136) C (p9.1 _ _) (zR_c 3 rfl) (zd tX6_readKind 46 rfl) (by decide) h (fun h => ?_) (fun h => ?_)
      · obtain ⟨rfl, rfl⟩ := zpi h
        exact ret.2.1 _ _ p9 rfl rfl (zd tX6_readKind 73 rfl)
      · refine z_aload_n C (zd tX6_readKind 47 rfl) rfl ?_
        refine z_aload_n C (zd tX6_readKind 48 rfl) rfl ?_
        refine z_aload_n C (zd tX6_readKind 49 rfl) rfl ?_
        refine z_iconst C (zd tX6_readKind 50 rfl) ?_
        refine z_bipush C (by decide) (zd tX6_readKind 51 rfl) ?_
        obtain ⟨v10, r11, cv10, h⟩ := zcl_some h
        refine zc_V C ho hz hRm (qX6_readNumber _ _ _ _ (zR_c 0 rfl) (zR_c 23 rfl) p9 cv10) (lg_3 ho) (by decide) rfl (zgV zwd_543 zwd_545 zws_5 zwd_3 zwd_546) rfl pX6_readNumber rfl ⟨rfl, rfl⟩ ⟨Nat.le_of_ble_eq_true rfl, Nat.le_of_ble_eq_true rfl⟩ [zr a2] rfl (Nat.le_of_ble_eq_true rfl) (zd tX6_readKind 52 rfl) [zi r11, zr a2] rfl (fun p12 => ?_)
        obtain ⟨v13, ev13, h⟩ := zb_some h
        have hv13 : zV 0 137 v13 := by rw [ev13]; exact p12.1.st p12.2 ga2.1 (Or.inr rfl)
        refine pf_5_3 C ga2 zic_5 (zm zwd_124) ev13 (zd tX6_readKind 53 rfl) ?_
        refine z_aload_n C (zd tX6_readKind 54 rfl) rfl ?_
        refine gf_9_4 C (lg_1 ho) zic_9 (zm zwd_43) (zd tX6_readKind 55 rfl) ?_
        refine z_istore_n C (zd tX6_readKind 56 rfl) (by rw [hN]; decide) ?_
        refine z_aload_n C (zd tX6_readKind 57 rfl) rfl ?_
        refine z_aload_n C (zd tX6_readKind 58 rfl) rfl ?_
        refine z_aload_n C (zd tX6_readKind 59 rfl) rfl ?_
        refine z_iconst C (zd tX6_readKind 60 rfl) ?_
        refine z_bipush C (by decide) (zd tX6_readKind 61 rfl) ?_
        obtain ⟨v14, r15, cv14, h⟩ := zcl_some h
        refine zc_V C ho hz hRm (qX6_readNumber _ _ _ _ (zR_c 0 rfl) (zR_c 23 rfl) hv13 cv14) (lg_3 ho) (by decide) rfl (zgV zwd_543 zwd_545 zws_5 zwd_3 zwd_546) rfl pX6_readNumber rfl ⟨rfl, rfl⟩ ⟨Nat.le_of_ble_eq_true rfl, Nat.le_of_ble_eq_true rfl⟩ [zr a2] rfl (Nat.le_of_ble_eq_true rfl) (zd tX6_readKind 62 rfl) [zi r15, zr a2] rfl (fun p16 => ?_)
        obtain ⟨v17, ev17, h⟩ := zb_some h
        have hv17 : zV 0 137 v17 := by rw [ev17]; exact p16.1.st p16.2 ga2.1 (Or.inr rfl)
        refine pf_5_4 C ga2 zic_5 (zm zwd_128) ev17 (zd tX6_readKind 63 rfl) ?_
        refine z_aload_n C (zd tX6_readKind 64 rfl) rfl ?_
        refine gf_5_4 C ga2 zic_5 (zm zwd_128) (zd tX6_readKind 65 rfl) ?_
        refine z_aload_n C (zd tX6_readKind 66 rfl) rfl ?_
        refine gf_5_3 C ga2 zic_5 (zm zwd_124) (zd tX6_readKind 67 rfl) ?_
        refine z_icmp_ne (tgt := 136) C (hv17.1 _ _) (hv17.1 _ _) (zd tX6_readKind 68 rfl) (by decide) h (fun h => ?_) (fun h => ?_)
        · obtain ⟨rfl, rfl⟩ := zpi h
          exact ret.2.1 _ _ hv17 rfl rfl (zd tX6_readKind 73 rfl)
        · refine z_aload_n C (zd tX6_readKind 69 rfl) rfl ?_
          refine z_iload_n C (zd tX6_readKind 70 rfl) rfl ?_
          refine z_iconst C (zd tX6_readKind 71 rfl) ?_
          obtain ⟨v18, r19, cv18, h⟩ := zcl_some h
          refine zc_V C ho hz hRm (qX6_refuse _ _ _ _ (hv13.1 _ _) (zR_c 2 rfl) hv17 cv18) (lg_3 ho) (by decide) rfl (zgV zwd_534 zwd_536 zws_3 zwd_3 zwd_537) rfl pX6_refuse rfl ⟨rfl, rfl⟩ ⟨Nat.le_of_ble_eq_true rfl, Nat.le_of_ble_eq_true rfl⟩ [] rfl (Nat.le_of_ble_eq_true rfl) (zd tX6_readKind 72 rfl) [] rfl (fun p20 => ?_)
          obtain ⟨rfl, rfl⟩ := zpi h
          exact ret.2.1 _ _ p20 rfl rfl (zd tX6_readKind 73 rfl)
    · refine z_aload_n C (zd tX6_readKind 35 rfl) rfl ?_
      refine z_aload_n C (zd tX6_readKind 36 rfl) rfl ?_
      refine z_aload_n C (zd tX6_readKind 37 rfl) rfl ?_
      refine z_iconst C (zd tX6_readKind 38 rfl) ?_
      refine z_sipush C (by decide) (zd tX6_readKind 39 rfl) ?_
      obtain ⟨v21, r22, cv21, h⟩ := zcl_some h
      refine zc_V C ho hz hRm (qX6_readNumber _ _ _ _ (zR_c 0 rfl) (zR_c 672 rfl) p9 cv21) (lg_3 ho) (by decide) rfl (zgV zwd_543 zwd_545 zws_5 zwd_3 zwd_546) rfl pX6_readNumber rfl ⟨rfl, rfl⟩ ⟨Nat.le_of_ble_eq_true rfl, Nat.le_of_ble_eq_true rfl⟩ [zr a2] rfl (Nat.le_of_ble_eq_true rfl) (zd tX6_readKind 40 rfl) [zi r22, zr a2] rfl (fun p23 => ?_)
      obtain ⟨v24, ev24, h⟩ := zb_some h
      have hv24 : zV 0 137 v24 := by rw [ev24]; exact p23.1.st p23.2 ga2.1 (Or.inr rfl)
      refine pf_5_3 C ga2 zic_5 (zm zwd_124) ev24 (zd tX6_readKind 41 rfl) ?_
      refine z_goto (tgt := 136) C (zd tX6_readKind 42 rfl) (by decide) ?_
      obtain ⟨rfl, rfl⟩ := zpi h
      exact ret.2.1 _ _ hv24 rfl rfl (zd tX6_readKind 73 rfl)
  · refine z_aload_n C (zd tX6_readKind 23 rfl) rfl ?_
    refine z_aload_n C (zd tX6_readKind 24 rfl) rfl ?_
    refine z_aload_n C (zd tX6_readKind 25 rfl) rfl ?_
    refine z_iconst C (zd tX6_readKind 26 rfl) ?_
    refine z_bipush C (by decide) (zd tX6_readKind 27 rfl) ?_
    obtain ⟨v25, r26, cv25, h⟩ := zcl_some h
    refine zc_V C ho hz hRm (qX6_readNumber _ _ _ _ (zR_c 0 rfl) (zR_c 96 rfl) p9 cv25) (lg_3 ho) (by decide) rfl (zgV zwd_543 zwd_545 zws_5 zwd_3 zwd_546) rfl pX6_readNumber rfl ⟨rfl, rfl⟩ ⟨Nat.le_of_ble_eq_true rfl, Nat.le_of_ble_eq_true rfl⟩ [zr a2] rfl (Nat.le_of_ble_eq_true rfl) (zd tX6_readKind 28 rfl) [zi r26, zr a2] rfl (fun p27 => ?_)
    obtain ⟨v28, ev28, h⟩ := zb_some h
    have hv28 : zV 0 137 v28 := by rw [ev28]; exact p27.1.st p27.2 ga2.1 (Or.inr rfl)
    refine pf_5_3 C ga2 zic_5 (zm zwd_124) ev28 (zd tX6_readKind 29 rfl) ?_
    refine z_goto (tgt := 136) C (zd tX6_readKind 30 rfl) (by decide) ?_
    obtain ⟨rfl, rfl⟩ := zpi h
    exact ret.2.1 _ _ hv28 rfl rfl (zd tX6_readKind 73 rfl)
set_option maxRecDepth 100000 in
set_option maxHeartbeats 4000000 in
theorem qX6_readKind (l : Launch) (D : va_G) (ids : Nat → ClassId) (b : Nat) (ad adV : Nat → Nat) {a2 : Nat} (k2 : zK a2 = (5, 5)) {v v' : zHp} {r' : Int} (hv : zV 0 137 v) (h : fX6_readKind v a2 = some (v', r')) : zCTS l yX6_readKind vsX6_readKind rmX6_readKind D ids b 0 False ad adV 137 [zr 3, zr 1, zr a2] v 137 (zV 0 137 v') none v' 0 0 := by
  refine zMetS (own := RX6) (by decide +kernel) (show vsX6_readKind = _ from rfl) (Nat.le_of_ble_eq_true rfl) rfl ?_
  intro E hl hRm hD hids hb ho hz hN C hZs hname ret
  subst hl hD hids hb
  have ga2 := kg_5 ho k2
  unfold fX6_readKind at h
  refine z_aload_n C (zd tX6_readKind 0 rfl) rfl ?_
  refine z_iconst C (zd tX6_readKind 1 rfl) ?_
  obtain ⟨v1, ev1, h⟩ := zb_some h
  have hv1 : zV 0 137 v1 := by rw [ev1]; exact hv.st (zR_c (-1) rfl) ga2.1 (Or.inr rfl)
  refine pf_5_3 C ga2 zic_5 (zm zwd_124) ev1 (zd tX6_readKind 2 rfl) ?_
  refine z_aload_n C (zd tX6_readKind 3 rfl) rfl ?_
  refine z_iconst C (zd tX6_readKind 4 rfl) ?_
  obtain ⟨v2, ev2, h⟩ := zb_some h
  have hv2 : zV 0 137 v2 := by rw [ev2]; exact hv1.st (zR_c (-1) rfl) ga2.1 (Or.inr rfl)
  refine pf_5_4 C ga2 zic_5 (zm zwd_128) ev2 (zd tX6_readKind 5 rfl) ?_
  refine z_aload_n C (zd tX6_readKind 6 rfl) rfl ?_
  refine z_aload_n C (zd tX6_readKind 7 rfl) rfl ?_
  obtain ⟨v3, r4, cv3, h⟩ := zcl_some h
  refine zc_SS C hZs.1 ho hz hRm (qX6_kindOf _ _ _ _ _ _ hv2 cv3) (zgS zwd_576 zwd_577 zwd_3 zwd_578) rfl pX6_kindOf rfl ⟨rfl, rfl⟩ ⟨Nat.le_of_ble_eq_true rfl, Nat.le_of_ble_eq_true rfl⟩ [zr a2] rfl (Nat.le_of_ble_eq_true rfl) (zd tX6_readKind 8 rfl) [zi r4, zr a2] rfl (fun p5 => ?_)
  obtain ⟨v6, ev6, h⟩ := zb_some h
  have hv6 : zV 0 137 v6 := by rw [ev6]; exact p5.1.st p5.2 ga2.1 (Or.inr rfl)
  refine pf_5_0 C ga2 zic_5 (zm zwd_112) ev6 (zd tX6_readKind 9 rfl) ?_
  refine z_aload_n C (zd tX6_readKind 10 rfl) rfl ?_
  refine z_aload_n C (zd tX6_readKind 11 rfl) rfl ?_
  refine z_aload_n C (zd tX6_readKind 12 rfl) rfl ?_
  refine gf_5_0 C ga2 zic_5 (zm zwd_112) (zd tX6_readKind 13 rfl) ?_
  refine z_iconst C (zd tX6_readKind 14 rfl) ?_
  refine z_icmp_eq (tgt := 32) C (hv6.1 _ _) (zR_c (-1) rfl) (zd tX6_readKind 15 rfl) (by decide) h (fun h => ?_) (fun h => ?_)
  · refine z_iconst C (zd tX6_readKind 18 rfl) ?_
    refine z_sub (lo' := [some (zr 3), some (zr 1), some (zr a2), none]) (zsub_s (zsub_s (zsub_s (zsub_n zsub_0)))) ?_
    exact jX6_readKind_J33 C hN ho hz hRm hZs ret v6 a2 0 h hv6 ga2 (zR_c 0 rfl)
  · refine z_iconst C (zd tX6_readKind 16 rfl) ?_
    refine z_goto (tgt := 33) C (zd tX6_readKind 17 rfl) (by decide) ?_
    refine z_sub (lo' := [some (zr 3), some (zr 1), some (zr a2), none]) (zsub_s (zsub_s (zsub_s (zsub_n zsub_0)))) ?_
    exact jX6_readKind_J33 C hN ho hz hRm hZs ret v6 a2 1 h hv6 ga2 (zR_c 1 rfl)
noncomputable def vsX6_readPremium : List Cond := .code yX6_readPremium cX6_readPremium 4 none :: zbig
abbrev rmX6_readPremium : Room := { frames := 7, cells := 0, slots := 0, locals := 150 }
theorem pX6_readPremium : yX6_readPremium.cls = RX6 ∧ yX6_readPremium.cls ≠ "java/lang/invoke/MethodHandle" ∧ yX6_readPremium.cls ≠ "java/lang/invoke/VarHandle" ∧ (parseMethodDescriptor yX6_readPremium.desc).map (fun d => d.parameters.length) = some 2 := by decide +kernel
set_option maxRecDepth 100000 in
set_option maxHeartbeats 4000000 in
theorem qX6_readPremium (l : Launch) (D : va_G) (ids : Nat → ClassId) (b : Nat) (ad adV : Nat → Nat) {a2 : Nat} (k2 : zK a2 = (7, 10)) {v v' : zHp} {r' : Int} (hv : zV 0 137 v) (h : fX6_readPremium v a2 = some (v', r')) : zCTS l yX6_readPremium vsX6_readPremium rmX6_readPremium D ids b 0 False ad adV 137 [zr 3, zr 1, zr a2] v 137 (zV 0 137 v') none v' 0 0 := by
  refine zMetS (own := RX6) (by decide +kernel) (show vsX6_readPremium = _ from rfl) (Nat.le_of_ble_eq_true rfl) rfl ?_
  intro E hl hRm hD hids hb ho hz hN C hZs hname ret
  subst hl hD hids hb
  have ga2 := kg_7 ho k2
  unfold fX6_readPremium at h
  refine z_aload_n C (zd tX6_readPremium 0 rfl) rfl ?_
  refine gf_7_2 C ga2 zic_7 (zm zwd_159) (zd tX6_readPremium 1 rfl) ?_
  refine z_bipush C (by decide) (zd tX6_readPremium 2 rfl) ?_
  refine z_icmp_lt (tgt := 19) C (hv.1 _ _) (zR_c 8 rfl) (zd tX6_readPremium 3 rfl) (by decide) h (fun h => ?_) (fun h => ?_)
  · refine z_aload_n C (zd tX6_readPremium 10 rfl) rfl ?_
    obtain ⟨v1, r2, cv1, h⟩ := zcl_some h
    refine zc_V C ho hz hRm (qX9_advance _ _ _ _ hv cv1) (lg_1 ho) (by decide) rfl (zgV zwd_542 zwd_460 zwd_461 zwd_2 zwd_462) rfl pX9_advance rfl ⟨rfl, rfl⟩ ⟨Nat.le_of_ble_eq_true rfl, Nat.le_of_ble_eq_true rfl⟩ [] rfl (Nat.le_of_ble_eq_true rfl) (zd tX6_readPremium 11 rfl) [] rfl (fun p3 => ?_)
    refine z_aload_n C (zd tX6_readPremium 12 rfl) rfl ?_
    refine gl_7_1 C ga2 zic_7 (zm zwd_154) (vl_7_1 ho p3 ga2) (zd tX6_readPremium 13 rfl) ?_
    refine z_aload_n C (zd tX6_readPremium 14 rfl) rfl ?_
    refine gf_7_2 C ga2 zic_7 (zm zwd_159) (zd tX6_readPremium 15 rfl) ?_
    obtain ⟨q4, h⟩ := zck_some h
    obtain ⟨u5, eu5, h⟩ := zb_some h
    have gu5 := ge_Premium ho (lk_7_1 ho ga2) q4 eu5
    refine ra_Premium C ho p3 (lk_7_1 ho ga2) q4 eu5 (zd tX6_readPremium 16 rfl) ?_
    refine z_astore_n C (zd tX6_readPremium 17 rfl) (by rw [hN]; decide) ?_
    refine z_aload_n C (zd tX6_readPremium 18 rfl) rfl ?_
    refine z_dup C (zd tX6_readPremium 19 rfl) ?_
    refine gf_7_2 C ga2 zic_7 (zm zwd_159) (zd tX6_readPremium 20 rfl) ?_
    refine z_iconst C (zd tX6_readPremium 21 rfl) ?_
    refine z_iadd C (zd tX6_readPremium 22 rfl) ?_
    obtain ⟨t6, et6, Rt6, h⟩ := zn_some h
    refine z_n0 (congrArg zI et6.symm) ?_
    obtain ⟨v7, ev7, h⟩ := zb_some h
    have hv7 : zV 0 137 v7 := by rw [ev7]; exact p3.st Rt6 ga2.1 (Or.inr rfl)
    refine pf_7_2 C ga2 zic_7 (zm zwd_159) ev7 (zd tX6_readPremium 23 rfl) ?_
    refine z_aload_n C (zd tX6_readPremium 24 rfl) rfl ?_
    refine z_aload_n C (zd tX6_readPremium 25 rfl) rfl ?_
    refine z_aload_n C (zd tX6_readPremium 26 rfl) rfl ?_
    obtain ⟨v8, r9, cv8, h⟩ := zcl_some h
    refine zc_VS C hZs.1 ho hz hRm (qX6_readKind _ _ _ _ _ _ gu5.1 hv7 cv8) (lg_3 ho) (by decide) rfl (zgV zwd_572 zwd_574 zws_8 zwd_3 zwd_575) rfl pX6_readKind rfl ⟨rfl, rfl⟩ ⟨Nat.le_of_ble_eq_true rfl, Nat.le_of_ble_eq_true rfl⟩ [] rfl (Nat.le_of_ble_eq_true rfl) (zd tX6_readPremium 27 rfl) [] rfl (fun p10 => ?_)
    refine z_aload_n C (zd tX6_readPremium 28 rfl) rfl ?_
    refine z_aload_n C (zd tX6_readPremium 29 rfl) rfl ?_
    refine z_aload_n C (zd tX6_readPremium 30 rfl) rfl ?_
    refine z_iconst C (zd tX6_readPremium 31 rfl) ?_
    refine z_sipush C (by decide) (zd tX6_readPremium 32 rfl) ?_
    obtain ⟨v11, r12, cv11, h⟩ := zcl_some h
    refine zc_V C ho hz hRm (qX6_readNumber _ _ _ _ (zR_c 1 rfl) (zR_c 300 rfl) p10 cv11) (lg_3 ho) (by decide) rfl (zgV zwd_543 zwd_545 zws_5 zwd_3 zwd_546) rfl pX6_readNumber rfl ⟨rfl, rfl⟩ ⟨Nat.le_of_ble_eq_true rfl, Nat.le_of_ble_eq_true rfl⟩ [zr u5] rfl (Nat.le_of_ble_eq_true rfl) (zd tX6_readPremium 33 rfl) [zi r12, zr u5] rfl (fun p13 => ?_)
    obtain ⟨v14, ev14, h⟩ := zb_some h
    have hv14 : zV 0 137 v14 := by rw [ev14]; exact p13.1.st p13.2 gu5.1 (Or.inr rfl)
    refine pf_5_1 C gu5 zic_5 (zm zwd_115) ev14 (zd tX6_readPremium 34 rfl) ?_
    refine z_aload_n C (zd tX6_readPremium 35 rfl) rfl ?_
    refine z_aload_n C (zd tX6_readPremium 36 rfl) rfl ?_
    refine z_ldcS C hZs.1 (i := 13) (by decide) rfl (zd tX6_readPremium 37 rfl) ?_
    obtain ⟨v15, r16, cv15, h⟩ := zcl_some h
    refine zc_VS C hZs.1 ho hz hRm (qX9_tells _ _ _ _ _ _ (by decide) hv14 cv15) (lg_1 ho) (by decide) rfl (zgV zwd_474 zwd_475 zwd_476 zwd_2 zwd_477) rfl pX9_tells rfl ⟨rfl, rfl⟩ ⟨Nat.le_of_ble_eq_true rfl, Nat.le_of_ble_eq_true rfl⟩ [zr u5] rfl (Nat.le_of_ble_eq_true rfl) (zd tX6_readPremium 38 rfl) [zi r16, zr u5] rfl (fun p17 => ?_)
    obtain ⟨q18, h⟩ := zck_some h
    obtain ⟨v19, ev19, h⟩ := zb_some h
    have hv19 : zV 0 137 v19 := by rw [ev19]; exact p17.1.st p17.2 gu5.1 (Or.inr rfl)
    refine pf_5_2 C gu5 zic_5 (zm zwd_119) q18 ev19 (zd tX6_readPremium 39 rfl) ?_
    refine z_aload_n C (zd tX6_readPremium 40 rfl) rfl ?_
    refine gf_5_2 C gu5 zic_5 (zm zwd_119) (zd tX6_readPremium 41 rfl) ?_
    refine z_if_eq (tgt := 85) C (hv19.1 _ _) (zd tX6_readPremium 42 rfl) (by decide) h (fun h => ?_) (fun h => ?_)
    · obtain ⟨rfl, rfl⟩ := zpi h
      exact ret.2.1 _ _ hv19 rfl rfl (zd tX6_readPremium 47 rfl)
    · refine z_aload_n C (zd tX6_readPremium 43 rfl) rfl ?_
      refine z_aload_n C (zd tX6_readPremium 44 rfl) rfl ?_
      refine z_iconst C (zd tX6_readPremium 45 rfl) ?_
      obtain ⟨v20, r21, cv20, h⟩ := zcl_some h
      refine zc_V C ho hz hRm (qX6_passIf _ _ _ _ (zR_c 1 rfl) hv19 cv20) (lg_3 ho) (by decide) rfl (zgV zwd_538 zwd_540 zws_4 zwd_3 zwd_541) rfl pX6_passIf rfl ⟨rfl, rfl⟩ ⟨Nat.le_of_ble_eq_true rfl, Nat.le_of_ble_eq_true rfl⟩ [] rfl (Nat.le_of_ble_eq_true rfl) (zd tX6_readPremium 46 rfl) [] rfl (fun p22 => ?_)
      obtain ⟨rfl, rfl⟩ := zpi h
      exact ret.2.1 _ _ p22 rfl rfl (zd tX6_readPremium 47 rfl)
  · refine z_aload_n C (zd tX6_readPremium 4 rfl) rfl ?_
    refine z_aload_n C (zd tX6_readPremium 5 rfl) rfl ?_
    refine gf_9_4 C (lg_1 ho) zic_9 (zm zwd_43) (zd tX6_readPremium 6 rfl) ?_
    refine z_iconst C (zd tX6_readPremium 7 rfl) ?_
    obtain ⟨v23, r24, cv23, h⟩ := zcl_some h
    refine zc_V C ho hz hRm (qX6_refuse _ _ _ _ (hv.1 _ _) (zR_c 3 rfl) hv cv23) (lg_3 ho) (by decide) rfl (zgV zwd_534 zwd_536 zws_3 zwd_3 zwd_537) rfl pX6_refuse rfl ⟨rfl, rfl⟩ ⟨Nat.le_of_ble_eq_true rfl, Nat.le_of_ble_eq_true rfl⟩ [] rfl (Nat.le_of_ble_eq_true rfl) (zd tX6_readPremium 8 rfl) [] rfl (fun p25 => ?_)
    obtain ⟨rfl, rfl⟩ := zpi h
    exact ret.2.1 _ _ p25 rfl rfl (zd tX6_readPremium 9 rfl)
noncomputable def vsX6_readLine : List Cond := .code yX6_readLine cX6_readLine 3 none :: zbig
abbrev rmX6_readLine : Room := { frames := 8, cells := 0, slots := 0, locals := 173 }
theorem pX6_readLine : yX6_readLine.cls = RX6 ∧ yX6_readLine.cls ≠ "java/lang/invoke/MethodHandle" ∧ yX6_readLine.cls ≠ "java/lang/invoke/VarHandle" ∧ (parseMethodDescriptor yX6_readLine.desc).map (fun d => d.parameters.length) = some 2 := by decide +kernel
set_option maxRecDepth 100000 in
set_option maxHeartbeats 4000000 in
theorem jX6_readLine_J198 {E : zE} {ad adV : Nat → Nat} (C : zC E 137 cX6_readLine RX6 vsX6_readLine) (hN : zEN E = 3) (ho : zEo E = 0) (hz : zEz E = False) (hRm : zER E = rmX6_readLine) (hZs : zStr ad adV (zEA E) (zEs E) (zEH E) ∧ zEH E = (zEs E).heap) {v' : zHp} {r' : Int} (ret : zRet E cX6_readLine 0 0 137 none (zV 0 137 v') none v') (v : zHp) (h : fX6_readLine_J198 v = some (v', r')) (hv : zV 0 137 v) : zX E 0 0 137 v 198 [some (zr 3), some (zr 1), none] [] := by
  unfold fX6_readLine_J198 at h
  refine z_aload_n C (zd tX6_readLine 103 rfl) rfl ?_
  refine z_aload_n C (zd tX6_readLine 104 rfl) rfl ?_
  refine z_aload_n C (zd tX6_readLine 105 rfl) rfl ?_
  refine gf_9_3 C (lg_1 ho) zic_9 (zm zwd_41) (zd tX6_readLine 106 rfl) ?_
  refine z_iconst C (zd tX6_readLine 107 rfl) ?_
  refine z_icmp_ne (tgt := 212) C (hv.1 _ _) (zR_c 3 rfl) (zd tX6_readLine 108 rfl) (by decide) h (fun h => ?_) (fun h => ?_)
  · refine z_iconst C (zd tX6_readLine 111 rfl) ?_
    obtain ⟨v25, r26, cv25, h⟩ := zcl_some h
    refine zc_V C ho hz hRm (qX6_passIf _ _ _ _ (zR_c 0 rfl) hv cv25) (lg_3 ho) (by decide) rfl (zgV zwd_538 zwd_540 zws_4 zwd_3 zwd_541) rfl pX6_passIf rfl ⟨rfl, rfl⟩ ⟨Nat.le_of_ble_eq_true rfl, Nat.le_of_ble_eq_true rfl⟩ [] rfl (Nat.le_of_ble_eq_true rfl) (zd tX6_readLine 112 rfl) [] rfl (fun p27 => ?_)
    obtain ⟨rfl, rfl⟩ := zpi h
    exact ret.2.1 _ _ p27 rfl rfl (zd tX6_readLine 113 rfl)
  · refine z_iconst C (zd tX6_readLine 109 rfl) ?_
    refine z_goto (tgt := 213) C (zd tX6_readLine 110 rfl) (by decide) ?_
    obtain ⟨v28, r29, cv28, h⟩ := zcl_some h
    refine zc_V C ho hz hRm (qX6_passIf _ _ _ _ (zR_c 1 rfl) hv cv28) (lg_3 ho) (by decide) rfl (zgV zwd_538 zwd_540 zws_4 zwd_3 zwd_541) rfl pX6_passIf rfl ⟨rfl, rfl⟩ ⟨Nat.le_of_ble_eq_true rfl, Nat.le_of_ble_eq_true rfl⟩ [] rfl (Nat.le_of_ble_eq_true rfl) (zd tX6_readLine 112 rfl) [] rfl (fun p30 => ?_)
    obtain ⟨rfl, rfl⟩ := zpi h
    exact ret.2.1 _ _ p30 rfl rfl (zd tX6_readLine 113 rfl)
set_option maxRecDepth 100000 in
set_option maxHeartbeats 4000000 in
theorem qX6_readLine (l : Launch) (D : va_G) (ids : Nat → ClassId) (b : Nat) (ad adV : Nat → Nat) {a2 : Nat} (k2 : zK a2 = (7, 10)) {v v' : zHp} {r' : Int} (hv : zV 0 137 v) (h : fX6_readLine v a2 = some (v', r')) : zCTS l yX6_readLine vsX6_readLine rmX6_readLine D ids b 0 False ad adV 137 [zr 3, zr 1, zr a2] v 137 (zV 0 137 v') none v' 0 0 := by
  refine zMetS (own := RX6) (by decide +kernel) (show vsX6_readLine = _ from rfl) (Nat.le_of_ble_eq_true rfl) rfl ?_
  intro E hl hRm hD hids hb ho hz hN C hZs hname ret
  subst hl hD hids hb
  have ga2 := kg_7 ho k2
  unfold fX6_readLine at h
  refine z_aload_n C (zd tX6_readLine 0 rfl) rfl ?_
  refine z_ldcS C hZs.1 (i := 0) (by decide) rfl (zd tX6_readLine 1 rfl) ?_
  obtain ⟨v1, r2, cv1, h⟩ := zcl_some h
  refine zc_VS C hZs.1 ho hz hRm (qX9_tells _ _ _ _ _ _ (by decide) hv cv1) (lg_1 ho) (by decide) rfl (zgV zwd_474 zwd_475 zwd_476 zwd_2 zwd_477) rfl pX9_tells rfl ⟨rfl, rfl⟩ ⟨Nat.le_of_ble_eq_true rfl, Nat.le_of_ble_eq_true rfl⟩ [] rfl (Nat.le_of_ble_eq_true rfl) (zd tX6_readLine 2 rfl) [zi r2] rfl (fun p3 => ?_)
  refine z_if_eq (tgt := 18) C p3.2 (zd tX6_readLine 3 rfl) (by decide) h (fun h => ?_) (fun h => ?_)
  · refine z_aload_n C (zd tX6_readLine 9 rfl) rfl ?_
    refine z_ldcS C hZs.1 (i := 3) (by decide) rfl (zd tX6_readLine 10 rfl) ?_
    obtain ⟨v4, r5, cv4, h⟩ := zcl_some h
    refine zc_VS C hZs.1 ho hz hRm (qX9_tells _ _ _ _ _ _ (by decide) p3.1 cv4) (lg_1 ho) (by decide) rfl (zgV zwd_474 zwd_475 zwd_476 zwd_2 zwd_477) rfl pX9_tells rfl ⟨rfl, rfl⟩ ⟨Nat.le_of_ble_eq_true rfl, Nat.le_of_ble_eq_true rfl⟩ [] rfl (Nat.le_of_ble_eq_true rfl) (zd tX6_readLine 11 rfl) [zi r5] rfl (fun p6 => ?_)
    refine z_if_eq (tgt := 36) C p6.2 (zd tX6_readLine 12 rfl) (by decide) h (fun h => ?_) (fun h => ?_)
    · refine z_aload_n C (zd tX6_readLine 18 rfl) rfl ?_
      refine z_ldcS C hZs.1 (i := 4) (by decide) rfl (zd tX6_readLine 19 rfl) ?_
      obtain ⟨v7, r8, cv7, h⟩ := zcl_some h
      refine zc_VS C hZs.1 ho hz hRm (qX9_tells _ _ _ _ _ _ (by decide) p6.1 cv7) (lg_1 ho) (by decide) rfl (zgV zwd_474 zwd_475 zwd_476 zwd_2 zwd_477) rfl pX9_tells rfl ⟨rfl, rfl⟩ ⟨Nat.le_of_ble_eq_true rfl, Nat.le_of_ble_eq_true rfl⟩ [] rfl (Nat.le_of_ble_eq_true rfl) (zd tX6_readLine 20 rfl) [zi r8] rfl (fun p9 => ?_)
      refine z_if_eq (tgt := 66) C p9.2 (zd tX6_readLine 21 rfl) (by decide) h (fun h => ?_) (fun h => ?_)
      · refine z_aload_n C (zd tX6_readLine 34 rfl) rfl ?_
        refine z_ldcS C hZs.1 (i := 5) (by decide) rfl (zd tX6_readLine 35 rfl) ?_
        obtain ⟨v10, r11, cv10, h⟩ := zcl_some h
        refine zc_VS C hZs.1 ho hz hRm (qX9_tells _ _ _ _ _ _ (by decide) p9.1 cv10) (lg_1 ho) (by decide) rfl (zgV zwd_474 zwd_475 zwd_476 zwd_2 zwd_477) rfl pX9_tells rfl ⟨rfl, rfl⟩ ⟨Nat.le_of_ble_eq_true rfl, Nat.le_of_ble_eq_true rfl⟩ [] rfl (Nat.le_of_ble_eq_true rfl) (zd tX6_readLine 36 rfl) [zi r11] rfl (fun p12 => ?_)
        refine z_if_eq (tgt := 108) C p12.2 (zd tX6_readLine 37 rfl) (by decide) h (fun h => ?_) (fun h => ?_)
        · refine z_aload_n C (zd tX6_readLine 57 rfl) rfl ?_
          refine z_ldcS C hZs.1 (i := 6) (by decide) rfl (zd tX6_readLine 58 rfl) ?_
          obtain ⟨v13, r14, cv13, h⟩ := zcl_some h
          refine zc_VS C hZs.1 ho hz hRm (qX9_tells _ _ _ _ _ _ (by decide) p12.1 cv13) (lg_1 ho) (by decide) rfl (zgV zwd_474 zwd_475 zwd_476 zwd_2 zwd_477) rfl pX9_tells rfl ⟨rfl, rfl⟩ ⟨Nat.le_of_ble_eq_true rfl, Nat.le_of_ble_eq_true rfl⟩ [] rfl (Nat.le_of_ble_eq_true rfl) (zd tX6_readLine 59 rfl) [zi r14] rfl (fun p15 => ?_)
          refine z_if_eq (tgt := 139) C p15.2 (zd tX6_readLine 60 rfl) (by decide) h (fun h => ?_) (fun h => ?_)
          · refine z_aload_n C (zd tX6_readLine 73 rfl) rfl ?_
            refine z_ldcS C hZs.1 (i := 7) (by decide) rfl (zd tX6_readLine 74 rfl) ?_
            obtain ⟨v16, r17, cv16, h⟩ := zcl_some h
            refine zc_VS C hZs.1 ho hz hRm (qX9_tells _ _ _ _ _ _ (by decide) p15.1 cv16) (lg_1 ho) (by decide) rfl (zgV zwd_474 zwd_475 zwd_476 zwd_2 zwd_477) rfl pX9_tells rfl ⟨rfl, rfl⟩ ⟨Nat.le_of_ble_eq_true rfl, Nat.le_of_ble_eq_true rfl⟩ [] rfl (Nat.le_of_ble_eq_true rfl) (zd tX6_readLine 75 rfl) [zi r17] rfl (fun p18 => ?_)
            refine z_if_eq (tgt := 171) C p18.2 (zd tX6_readLine 76 rfl) (by decide) h (fun h => ?_) (fun h => ?_)
            · refine z_aload_n C (zd tX6_readLine 89 rfl) rfl ?_
              refine z_ldcS C hZs.1 (i := 8) (by decide) rfl (zd tX6_readLine 90 rfl) ?_
              obtain ⟨v19, r20, cv19, h⟩ := zcl_some h
              refine zc_VS C hZs.1 ho hz hRm (qX9_tells _ _ _ _ _ _ (by decide) p18.1 cv19) (lg_1 ho) (by decide) rfl (zgV zwd_474 zwd_475 zwd_476 zwd_2 zwd_477) rfl pX9_tells rfl ⟨rfl, rfl⟩ ⟨Nat.le_of_ble_eq_true rfl, Nat.le_of_ble_eq_true rfl⟩ [] rfl (Nat.le_of_ble_eq_true rfl) (zd tX6_readLine 91 rfl) [zi r20] rfl (fun p21 => ?_)
              refine z_if_eq (tgt := 189) C p21.2 (zd tX6_readLine 92 rfl) (by decide) h (fun h => ?_) (fun h => ?_)
              · refine z_aload_n C (zd tX6_readLine 98 rfl) rfl ?_
                refine z_aload_n C (zd tX6_readLine 99 rfl) rfl ?_
                refine gf_9_4 C (lg_1 ho) zic_9 (zm zwd_43) (zd tX6_readLine 100 rfl) ?_
                refine z_iconst C (zd tX6_readLine 101 rfl) ?_
                obtain ⟨v22, r23, cv22, h⟩ := zcl_some h
                refine zc_V C ho hz hRm (qX6_refuse _ _ _ _ (p21.1.1 _ _) (zR_c 1 rfl) p21.1 cv22) (lg_3 ho) (by decide) rfl (zgV zwd_534 zwd_536 zws_3 zwd_3 zwd_537) rfl pX6_refuse rfl ⟨rfl, rfl⟩ ⟨Nat.le_of_ble_eq_true rfl, Nat.le_of_ble_eq_true rfl⟩ [] rfl (Nat.le_of_ble_eq_true rfl) (zd tX6_readLine 102 rfl) [] rfl (fun p24 => ?_)
                refine z_sub (lo' := [some (zr 3), some (zr 1), none]) (zsub_s (zsub_s (zsub_n zsub_0))) ?_
                exact jX6_readLine_J198 C hN ho hz hRm hZs ret v22 h p24
              · refine z_aload_n C (zd tX6_readLine 93 rfl) rfl ?_
                refine z_aload_n C (zd tX6_readLine 94 rfl) rfl ?_
                refine z_aload_n C (zd tX6_readLine 95 rfl) rfl ?_
                obtain ⟨v31, r32, cv31, h⟩ := zcl_some h
                refine zc_VS C hZs.1 ho hz hRm (qX6_readPremium _ _ _ _ _ _ ga2.1 p21.1 cv31) (lg_3 ho) (by decide) rfl (zgV zwd_568 zwd_570 zws_7 zwd_3 zwd_571) rfl pX6_readPremium rfl ⟨rfl, rfl⟩ ⟨Nat.le_of_ble_eq_true rfl, Nat.le_of_ble_eq_true rfl⟩ [] rfl (Nat.le_of_ble_eq_true rfl) (zd tX6_readLine 96 rfl) [] rfl (fun p33 => ?_)
                refine z_goto (tgt := 198) C (zd tX6_readLine 97 rfl) (by decide) ?_
                refine z_sub (lo' := [some (zr 3), some (zr 1), none]) (zsub_s (zsub_s (zsub_n zsub_0))) ?_
                exact jX6_readLine_J198 C hN ho hz hRm hZs ret v31 h p33
            · refine z_aload_n C (zd tX6_readLine 77 rfl) rfl ?_
              refine z_aload_n C (zd tX6_readLine 78 rfl) rfl ?_
              refine z_bipush C (by decide) (zd tX6_readLine 79 rfl) ?_
              obtain ⟨v34, r35, cv34, h⟩ := zcl_some h
              refine zc_V C ho hz hRm (qX6_passOnce _ _ _ _ (zR_c 16 rfl) p18.1 cv34) (lg_3 ho) (by decide) rfl (zgV zwd_530 zwd_532 zws_2 zwd_3 zwd_533) rfl pX6_passOnce rfl ⟨rfl, rfl⟩ ⟨Nat.le_of_ble_eq_true rfl, Nat.le_of_ble_eq_true rfl⟩ [] rfl (Nat.le_of_ble_eq_true rfl) (zd tX6_readLine 80 rfl) [] rfl (fun p36 => ?_)
              refine z_aload_n C (zd tX6_readLine 81 rfl) rfl ?_
              refine z_aload_n C (zd tX6_readLine 82 rfl) rfl ?_
              refine z_aload_n C (zd tX6_readLine 83 rfl) rfl ?_
              refine z_iconst C (zd tX6_readLine 84 rfl) ?_
              refine z_sipush C (by decide) (zd tX6_readLine 85 rfl) ?_
              obtain ⟨v37, r38, cv37, h⟩ := zcl_some h
              refine zc_V C ho hz hRm (qX6_readNumber _ _ _ _ (zR_c 1 rfl) (zR_c 400 rfl) p36 cv37) (lg_3 ho) (by decide) rfl (zgV zwd_543 zwd_545 zws_5 zwd_3 zwd_546) rfl pX6_readNumber rfl ⟨rfl, rfl⟩ ⟨Nat.le_of_ble_eq_true rfl, Nat.le_of_ble_eq_true rfl⟩ [zr a2] rfl (Nat.le_of_ble_eq_true rfl) (zd tX6_readLine 86 rfl) [zi r38, zr a2] rfl (fun p39 => ?_)
              obtain ⟨v40, ev40, h⟩ := zb_some h
              have hv40 : zV 0 137 v40 := by rw [ev40]; exact p39.1.st p39.2 ga2.1 (Or.inr rfl)
              refine pf_7_9 C ga2 zic_7 (zm zwd_182) ev40 (zd tX6_readLine 87 rfl) ?_
              refine z_goto (tgt := 198) C (zd tX6_readLine 88 rfl) (by decide) ?_
              refine z_sub (lo' := [some (zr 3), some (zr 1), none]) (zsub_s (zsub_s (zsub_n zsub_0))) ?_
              exact jX6_readLine_J198 C hN ho hz hRm hZs ret v40 h hv40
          · refine z_aload_n C (zd tX6_readLine 61 rfl) rfl ?_
            refine z_aload_n C (zd tX6_readLine 62 rfl) rfl ?_
            refine z_bipush C (by decide) (zd tX6_readLine 63 rfl) ?_
            obtain ⟨v41, r42, cv41, h⟩ := zcl_some h
            refine zc_V C ho hz hRm (qX6_passOnce _ _ _ _ (zR_c 8 rfl) p15.1 cv41) (lg_3 ho) (by decide) rfl (zgV zwd_530 zwd_532 zws_2 zwd_3 zwd_533) rfl pX6_passOnce rfl ⟨rfl, rfl⟩ ⟨Nat.le_of_ble_eq_true rfl, Nat.le_of_ble_eq_true rfl⟩ [] rfl (Nat.le_of_ble_eq_true rfl) (zd tX6_readLine 64 rfl) [] rfl (fun p43 => ?_)
            refine z_aload_n C (zd tX6_readLine 65 rfl) rfl ?_
            refine z_aload_n C (zd tX6_readLine 66 rfl) rfl ?_
            refine z_aload_n C (zd tX6_readLine 67 rfl) rfl ?_
            refine z_iconst C (zd tX6_readLine 68 rfl) ?_
            refine z_bipush C (by decide) (zd tX6_readLine 69 rfl) ?_
            obtain ⟨v44, r45, cv44, h⟩ := zcl_some h
            refine zc_V C ho hz hRm (qX6_readNumber _ _ _ _ (zR_c 1 rfl) (zR_c 24 rfl) p43 cv44) (lg_3 ho) (by decide) rfl (zgV zwd_543 zwd_545 zws_5 zwd_3 zwd_546) rfl pX6_readNumber rfl ⟨rfl, rfl⟩ ⟨Nat.le_of_ble_eq_true rfl, Nat.le_of_ble_eq_true rfl⟩ [zr a2] rfl (Nat.le_of_ble_eq_true rfl) (zd tX6_readLine 70 rfl) [zi r45, zr a2] rfl (fun p46 => ?_)
            obtain ⟨v47, ev47, h⟩ := zb_some h
            have hv47 : zV 0 137 v47 := by rw [ev47]; exact p46.1.st p46.2 ga2.1 (Or.inr rfl)
            refine pf_7_8 C ga2 zic_7 (zm zwd_178) ev47 (zd tX6_readLine 71 rfl) ?_
            refine z_goto (tgt := 198) C (zd tX6_readLine 72 rfl) (by decide) ?_
            refine z_sub (lo' := [some (zr 3), some (zr 1), none]) (zsub_s (zsub_s (zsub_n zsub_0))) ?_
            exact jX6_readLine_J198 C hN ho hz hRm hZs ret v47 h hv47
        · refine z_aload_n C (zd tX6_readLine 38 rfl) rfl ?_
          refine z_aload_n C (zd tX6_readLine 39 rfl) rfl ?_
          refine z_iconst C (zd tX6_readLine 40 rfl) ?_
          obtain ⟨v48, r49, cv48, h⟩ := zcl_some h
          refine zc_V C ho hz hRm (qX6_passOnce _ _ _ _ (zR_c 4 rfl) p12.1 cv48) (lg_3 ho) (by decide) rfl (zgV zwd_530 zwd_532 zws_2 zwd_3 zwd_533) rfl pX6_passOnce rfl ⟨rfl, rfl⟩ ⟨Nat.le_of_ble_eq_true rfl, Nat.le_of_ble_eq_true rfl⟩ [] rfl (Nat.le_of_ble_eq_true rfl) (zd tX6_readLine 41 rfl) [] rfl (fun p50 => ?_)
          refine z_aload_n C (zd tX6_readLine 42 rfl) rfl ?_
          refine z_aload_n C (zd tX6_readLine 43 rfl) rfl ?_
          refine z_aload_n C (zd tX6_readLine 44 rfl) rfl ?_
          refine z_iconst C (zd tX6_readLine 45 rfl) ?_
          refine z_bipush C (by decide) (zd tX6_readLine 46 rfl) ?_
          obtain ⟨v51, r52, cv51, h⟩ := zcl_some h
          refine zc_V C ho hz hRm (qX6_readNumber _ _ _ _ (zR_c 1 rfl) (zR_c 96 rfl) p50 cv51) (lg_3 ho) (by decide) rfl (zgV zwd_543 zwd_545 zws_5 zwd_3 zwd_546) rfl pX6_readNumber rfl ⟨rfl, rfl⟩ ⟨Nat.le_of_ble_eq_true rfl, Nat.le_of_ble_eq_true rfl⟩ [zr a2] rfl (Nat.le_of_ble_eq_true rfl) (zd tX6_readLine 47 rfl) [zi r52, zr a2] rfl (fun p53 => ?_)
          obtain ⟨v54, ev54, h⟩ := zb_some h
          have hv54 : zV 0 137 v54 := by rw [ev54]; exact p53.1.st p53.2 ga2.1 (Or.inr rfl)
          refine pf_7_6 C ga2 zic_7 (zm zwd_170) ev54 (zd tX6_readLine 48 rfl) ?_
          refine z_aload_n C (zd tX6_readLine 49 rfl) rfl ?_
          refine z_aload_n C (zd tX6_readLine 50 rfl) rfl ?_
          refine z_aload_n C (zd tX6_readLine 51 rfl) rfl ?_
          refine z_iconst C (zd tX6_readLine 52 rfl) ?_
          refine z_bipush C (by decide) (zd tX6_readLine 53 rfl) ?_
          obtain ⟨v55, r56, cv55, h⟩ := zcl_some h
          refine zc_V C ho hz hRm (qX6_readNumber _ _ _ _ (zR_c 1 rfl) (zR_c 16 rfl) hv54 cv55) (lg_3 ho) (by decide) rfl (zgV zwd_543 zwd_545 zws_5 zwd_3 zwd_546) rfl pX6_readNumber rfl ⟨rfl, rfl⟩ ⟨Nat.le_of_ble_eq_true rfl, Nat.le_of_ble_eq_true rfl⟩ [zr a2] rfl (Nat.le_of_ble_eq_true rfl) (zd tX6_readLine 54 rfl) [zi r56, zr a2] rfl (fun p57 => ?_)
          obtain ⟨v58, ev58, h⟩ := zb_some h
          have hv58 : zV 0 137 v58 := by rw [ev58]; exact p57.1.st p57.2 ga2.1 (Or.inr rfl)
          refine pf_7_7 C ga2 zic_7 (zm zwd_174) ev58 (zd tX6_readLine 55 rfl) ?_
          refine z_goto (tgt := 198) C (zd tX6_readLine 56 rfl) (by decide) ?_
          refine z_sub (lo' := [some (zr 3), some (zr 1), none]) (zsub_s (zsub_s (zsub_n zsub_0))) ?_
          exact jX6_readLine_J198 C hN ho hz hRm hZs ret v58 h hv58
      · refine z_aload_n C (zd tX6_readLine 22 rfl) rfl ?_
        refine z_aload_n C (zd tX6_readLine 23 rfl) rfl ?_
        refine z_iconst C (zd tX6_readLine 24 rfl) ?_
        obtain ⟨v59, r60, cv59, h⟩ := zcl_some h
        refine zc_V C ho hz hRm (qX6_passOnce _ _ _ _ (zR_c 2 rfl) p9.1 cv59) (lg_3 ho) (by decide) rfl (zgV zwd_530 zwd_532 zws_2 zwd_3 zwd_533) rfl pX6_passOnce rfl ⟨rfl, rfl⟩ ⟨Nat.le_of_ble_eq_true rfl, Nat.le_of_ble_eq_true rfl⟩ [] rfl (Nat.le_of_ble_eq_true rfl) (zd tX6_readLine 25 rfl) [] rfl (fun p61 => ?_)
        refine z_aload_n C (zd tX6_readLine 26 rfl) rfl ?_
        refine z_aload_n C (zd tX6_readLine 27 rfl) rfl ?_
        refine z_aload_n C (zd tX6_readLine 28 rfl) rfl ?_
        refine z_iconst C (zd tX6_readLine 29 rfl) ?_
        refine z_bipush C (by decide) (zd tX6_readLine 30 rfl) ?_
        obtain ⟨v62, r63, cv62, h⟩ := zcl_some h
        refine zc_V C ho hz hRm (qX6_readNumber _ _ _ _ (zR_c 0 rfl) (zR_c 14 rfl) p61 cv62) (lg_3 ho) (by decide) rfl (zgV zwd_543 zwd_545 zws_5 zwd_3 zwd_546) rfl pX6_readNumber rfl ⟨rfl, rfl⟩ ⟨Nat.le_of_ble_eq_true rfl, Nat.le_of_ble_eq_true rfl⟩ [zr a2] rfl (Nat.le_of_ble_eq_true rfl) (zd tX6_readLine 31 rfl) [zi r63, zr a2] rfl (fun p64 => ?_)
        obtain ⟨v65, ev65, h⟩ := zb_some h
        have hv65 : zV 0 137 v65 := by rw [ev65]; exact p64.1.st p64.2 ga2.1 (Or.inr rfl)
        refine pf_7_5 C ga2 zic_7 (zm zwd_167) ev65 (zd tX6_readLine 32 rfl) ?_
        refine z_goto (tgt := 198) C (zd tX6_readLine 33 rfl) (by decide) ?_
        refine z_sub (lo' := [some (zr 3), some (zr 1), none]) (zsub_s (zsub_s (zsub_n zsub_0))) ?_
        exact jX6_readLine_J198 C hN ho hz hRm hZs ret v65 h hv65
    · refine z_aload_n C (zd tX6_readLine 13 rfl) rfl ?_
      refine z_aload_n C (zd tX6_readLine 14 rfl) rfl ?_
      refine z_aload_n C (zd tX6_readLine 15 rfl) rfl ?_
      obtain ⟨v66, r67, cv66, h⟩ := zcl_some h
      refine zc_V C ho hz hRm (qX6_readHoliday _ _ _ _ ga2.1 p6.1 cv66) (lg_3 ho) (by decide) rfl (zgV zwd_555 zwd_557 zws_6 zwd_3 zwd_558) rfl pX6_readHoliday rfl ⟨rfl, rfl⟩ ⟨Nat.le_of_ble_eq_true rfl, Nat.le_of_ble_eq_true rfl⟩ [] rfl (Nat.le_of_ble_eq_true rfl) (zd tX6_readLine 16 rfl) [] rfl (fun p68 => ?_)
      refine z_goto (tgt := 198) C (zd tX6_readLine 17 rfl) (by decide) ?_
      refine z_sub (lo' := [some (zr 3), some (zr 1), none]) (zsub_s (zsub_s (zsub_n zsub_0))) ?_
      exact jX6_readLine_J198 C hN ho hz hRm hZs ret v66 h p68
  · refine z_aload_n C (zd tX6_readLine 4 rfl) rfl ?_
    refine z_aload_n C (zd tX6_readLine 5 rfl) rfl ?_
    refine z_aload_n C (zd tX6_readLine 6 rfl) rfl ?_
    obtain ⟨v69, r70, cv69, h⟩ := zcl_some h
    refine zc_VS C hZs.1 ho hz hRm (qX6_readClock _ _ _ _ _ _ ga2.1 p3.1 cv69) (lg_3 ho) (by decide) rfl (zgV zwd_526 zwd_528 zws_1 zwd_3 zwd_529) rfl pX6_readClock rfl ⟨rfl, rfl⟩ ⟨Nat.le_of_ble_eq_true rfl, Nat.le_of_ble_eq_true rfl⟩ [] rfl (Nat.le_of_ble_eq_true rfl) (zd tX6_readLine 7 rfl) [] rfl (fun p71 => ?_)
    refine z_goto (tgt := 198) C (zd tX6_readLine 8 rfl) (by decide) ?_
    refine z_sub (lo' := [some (zr 3), some (zr 1), none]) (zsub_s (zsub_s (zsub_n zsub_0))) ?_
    exact jX6_readLine_J198 C hN ho hz hRm hZs ret v69 h p71
noncomputable def vsX9_open : List Cond := .code yX9_open cX9_open 2 none :: zbig
abbrev rmX9_open : Room := { frames := 2, cells := 0, slots := 0, locals := 41 }
theorem pX9_open : yX9_open.cls = RX9 ∧ yX9_open.cls ≠ "java/lang/invoke/MethodHandle" ∧ yX9_open.cls ≠ "java/lang/invoke/VarHandle" ∧ (parseMethodDescriptor yX9_open.desc).map (fun d => d.parameters.length) = some 1 := by decide +kernel
set_option maxRecDepth 100000 in
set_option maxHeartbeats 4000000 in
theorem qX9_open (l : Launch) (D : va_G) (ids : Nat → ClassId) (b : Nat) {x1 : Int} (Rx1 : zR x1) {v v' : zHp} {r' : Int} (hv : zV 0 137 v) (h : fX9_open v x1 = some (v', r')) : zCT l yX9_open vsX9_open rmX9_open D ids b 0 False 137 [zr 1, zi x1] v 137 (zV 0 137 v') none v' 0 0 := by
  refine zMet (own := RX9) (by decide +kernel) (show vsX9_open = _ from rfl) (Nat.le_of_ble_eq_true rfl) rfl ?_
  intro E hl hRm hD hids hb ho hz hN C hname ret
  subst hl hD hids hb
  unfold fX9_open at h
  refine z_aload_n C (zd tX9_open 0 rfl) rfl ?_
  refine z_iload_n C (zd tX9_open 1 rfl) rfl ?_
  refine z_aload_n C (zd tX9_open 2 rfl) rfl ?_
  refine gf_9_1 C (lg_1 ho) zic_9 (zm zwd_38) (zd tX9_open 3 rfl) ?_
  refine z_min C hRm Rx1 (hv.1 _ _) ⟨(zm zwd_456), (zm zwd_457), (zm zwd_14), (zm zwd_458)⟩ ⟨Nat.le_of_ble_eq_true rfl, Nat.le_of_ble_eq_true rfl, Nat.zero_le _, Nat.zero_le _⟩ (zd tX9_open 4 rfl) ?_
  obtain ⟨v1, ev1, h⟩ := zb_some h
  have hv1 : zV 0 137 v1 := by rw [ev1]; exact hv.st (zR_min Rx1 (hv.1 _ _)) (lg_1 ho).1 (Or.inr rfl)
  refine pf_9_2 C (lg_1 ho) zic_9 (zm zwd_40) ev1 (zd tX9_open 5 rfl) ?_
  refine z_aload_n C (zd tX9_open 6 rfl) rfl ?_
  refine z_iconst C (zd tX9_open 7 rfl) ?_
  obtain ⟨v2, ev2, h⟩ := zb_some h
  have hv2 : zV 0 137 v2 := by rw [ev2]; exact hv1.st (zR_c 0 rfl) (lg_1 ho).1 (Or.inr rfl)
  refine pf_9_5 C (lg_1 ho) zic_9 (zm zwd_45) ev2 (zd tX9_open 8 rfl) ?_
  refine z_aload_n C (zd tX9_open 9 rfl) rfl ?_
  obtain ⟨v3, r4, cv3, h⟩ := zcl_some h
  refine zc_V C ho hz hRm (qX9_advance _ _ _ _ hv2 cv3) (lg_1 ho) (by decide) rfl (zgV zwd_459 zwd_460 zwd_461 zwd_2 zwd_462) rfl pX9_advance rfl ⟨rfl, rfl⟩ ⟨Nat.le_of_ble_eq_true rfl, Nat.le_of_ble_eq_true rfl⟩ [] rfl (Nat.le_of_ble_eq_true rfl) (zd tX9_open 10 rfl) [] rfl (fun p5 => ?_)
  obtain ⟨rfl, rfl⟩ := zpi h
  exact ret.2.1 _ _ p5 rfl rfl (zd tX9_open 11 rfl)
noncomputable def vsX6_read : List Cond := .code yX6_read cX6_read 5 (some .int) :: zbig
abbrev rmX6_read : Room := { frames := 9, cells := 0, slots := 0, locals := 195 }
theorem pX6_read : yX6_read.cls = RX6 ∧ yX6_read.cls ≠ "java/lang/invoke/MethodHandle" ∧ yX6_read.cls ≠ "java/lang/invoke/VarHandle" ∧ (parseMethodDescriptor yX6_read.desc).map (fun d => d.parameters.length) = some 3 := by decide +kernel
set_option maxRecDepth 100000 in
set_option maxHeartbeats 4000000 in
theorem bX6_read_L22 {E : zE} {ad adV : Nat → Nat} (C : zC E 137 cX6_read RX6 vsX6_read) (hN : zEN E = 5) (ho : zEo E = 0) (hz : zEz E = False) (hRm : zER E = rmX6_read) (hZs : zStr ad adV (zEA E) (zEs E) (zEH E) ∧ zEH E = (zEs E).heap) : ∀ (fu : Nat) (v : zHp) (x2 : Int) (a3 : Nat) (x4 : Int) (res : (zHp × (Int))), fX6_read_L22 fu v x2 a3 x4 = some res → zV 0 137 v → zR x2 → zG E 137 a3 7 10 → zR x4 → (∀ (w : zHp) (q : Int), res = (w, q) → zV 0 137 w → True → zX E 0 0 137 w 55 [some (zr 3), none, none, none, none] []) → zX E 0 0 137 v 22 [some (zr 3), some (zr 1), some (zi x2), some (zr a3), some (zi x4)] [] := by
  intro fu
  induction fu with
  | zero =>
    intro v _ _ _ res h
    cases h
  | succ fu ih =>
    intro v x2 a3 x4 res h hv Rx2 ga3 Rx4 K1
    rw [fX6_read_L22.eq_2] at h
    refine z_iload C (zd tX6_read 13 rfl) rfl ?_
    refine z_iload_n C (zd tX6_read 14 rfl) rfl ?_
    refine z_icmp_ge (tgt := 55) C Rx4 Rx2 (zd tX6_read 15 rfl) (by decide) h (fun h => ?_) (fun h => ?_)
    · refine z_sub (lo' := [some (zr 3), none, none, none, none]) (zsub_s (zsub_n (zsub_n (zsub_n (zsub_n zsub_0))))) ?_
      exact K1 _ _ (Option.some.inj h).symm hv trivial
    · refine z_aload_n C (zd tX6_read 16 rfl) rfl ?_
      refine gf_6_0 C (lg_3 ho) zic_6 (zm zwd_66) (zd tX6_read 17 rfl) ?_
      refine z_iconst C (zd tX6_read 18 rfl) ?_
      refine z_icmp_ne (tgt := 55) C (hv.1 _ _) (zR_c (-1) rfl) (zd tX6_read 19 rfl) (by decide) h (fun h => ?_) (fun h => ?_)
      · refine z_sub (lo' := [some (zr 3), none, none, none, none]) (zsub_s (zsub_n (zsub_n (zsub_n (zsub_n zsub_0))))) ?_
        exact K1 _ _ (Option.some.inj h).symm hv trivial
      · refine z_aload_n C (zd tX6_read 20 rfl) rfl ?_
        refine gf_9_3 C (lg_1 ho) zic_9 (zm zwd_41) (zd tX6_read 21 rfl) ?_
        refine z_if_eq (tgt := 55) C (hv.1 _ _) (zd tX6_read 22 rfl) (by decide) h (fun h => ?_) (fun h => ?_)
        · refine z_sub (lo' := [some (zr 3), none, none, none, none]) (zsub_s (zsub_n (zsub_n (zsub_n (zsub_n zsub_0))))) ?_
          exact K1 _ _ (Option.some.inj h).symm hv trivial
        · refine z_aload_n C (zd tX6_read 23 rfl) rfl ?_
          refine z_aload_n C (zd tX6_read 24 rfl) rfl ?_
          refine z_aload_n C (zd tX6_read 25 rfl) rfl ?_
          obtain ⟨v9, r10, cv9, h⟩ := zcl_some h
          refine zc_VS C hZs.1 ho hz hRm (qX6_readLine _ _ _ _ _ _ ga3.1 hv cv9) (lg_3 ho) (by decide) rfl (zgV zwd_469 zwd_471 zws_0 zwd_3 zwd_472) rfl pX6_readLine rfl ⟨rfl, rfl⟩ ⟨Nat.le_of_ble_eq_true rfl, Nat.le_of_ble_eq_true rfl⟩ [] rfl (Nat.le_of_ble_eq_true rfl) (zd tX6_read 26 rfl) [] rfl (fun p11 => ?_)
          obtain ⟨t12, et12, Rt12, h⟩ := zn_some h
          refine z_iincE C (zd tX6_read 27 rfl) (by rw [hN]; decide) rfl et12 ?_
          refine z_goto (tgt := 22) C (zd tX6_read 28 rfl) (by decide) ?_
          refine z_sub (lo' := [some (zr 3), some (zr 1), some (zi x2), some (zr a3), some (zi t12)]) (zsub_s (zsub_s (zsub_s (zsub_s (zsub_s zsub_0))))) ?_
          exact ih v9 x2 a3 t12 _ h p11 Rx2 ga3 Rt12 K1
set_option maxRecDepth 100000 in
set_option maxHeartbeats 4000000 in
theorem qX6_read (l : Launch) (D : va_G) (ids : Nat → ClassId) (b : Nat) (ad adV : Nat → Nat) {x2 : Int} (Rx2 : zR x2) {a3 : Nat} (k3 : zK a3 = (7, 10)) {v v' : zHp} {r' : Int} (hv : zV 0 137 v) (h : fX6_read v x2 a3 = some (v', r')) : zCTS l yX6_read vsX6_read rmX6_read D ids b 0 False ad adV 137 [zr 3, zr 1, zi x2, zr a3] v 137 (zV 0 137 v' ∧ zR r') (some (zi r')) v' 0 0 := by
  refine zMetS (own := RX6) (by decide +kernel) (show vsX6_read = _ from rfl) (Nat.le_of_ble_eq_true rfl) rfl ?_
  intro E hl hRm hD hids hb ho hz hN C hZs hname ret
  subst hl hD hids hb
  have ga3 := kg_7 ho k3
  unfold fX6_read at h
  refine z_aload_n C (zd tX6_read 0 rfl) rfl ?_
  refine z_iconst C (zd tX6_read 1 rfl) ?_
  obtain ⟨v1, ev1, h⟩ := zb_some h
  have hv1 : zV 0 137 v1 := by rw [ev1]; exact hv.st (zR_c (-1) rfl) (lg_3 ho).1 (Or.inr rfl)
  refine pf_6_0 C (lg_3 ho) zic_6 (zm zwd_66) ev1 (zd tX6_read 2 rfl) ?_
  refine z_aload_n C (zd tX6_read 3 rfl) rfl ?_
  refine z_iconst C (zd tX6_read 4 rfl) ?_
  obtain ⟨v2, ev2, h⟩ := zb_some h
  have hv2 : zV 0 137 v2 := by rw [ev2]; exact hv1.st (zR_c 0 rfl) (lg_3 ho).1 (Or.inr rfl)
  refine pf_6_1 C (lg_3 ho) zic_6 (zm zwd_67) ev2 (zd tX6_read 5 rfl) ?_
  refine z_aload_n C (zd tX6_read 6 rfl) rfl ?_
  obtain ⟨v3, r4, cv3, h⟩ := zcl_some h
  refine zc_V C ho hz hRm (qX7_clear _ _ _ _ ga3.1 hv2 cv3) ga3 (by decide) rfl (zgV zwd_451 zwd_141 zwd_142 zwd_4 zwd_143) rfl pX7_clear rfl ⟨rfl, rfl⟩ ⟨Nat.le_of_ble_eq_true rfl, Nat.le_of_ble_eq_true rfl⟩ [] rfl (Nat.le_of_ble_eq_true rfl) (zd tX6_read 7 rfl) [] rfl (fun p5 => ?_)
  refine z_aload_n C (zd tX6_read 8 rfl) rfl ?_
  refine z_iload_n C (zd tX6_read 9 rfl) rfl ?_
  obtain ⟨v6, r7, cv6, h⟩ := zcl_some h
  refine zc_V C ho hz hRm (qX9_open _ _ _ _ Rx2 p5 cv6) (lg_1 ho) (by decide) rfl (zgV zwd_452 zwd_453 zwd_454 zwd_2 zwd_455) rfl pX9_open rfl ⟨rfl, rfl⟩ ⟨Nat.le_of_ble_eq_true rfl, Nat.le_of_ble_eq_true rfl⟩ [] rfl (Nat.le_of_ble_eq_true rfl) (zd tX6_read 10 rfl) [] rfl (fun p8 => ?_)
  refine z_iconst C (zd tX6_read 11 rfl) ?_
  refine z_istore C (zd tX6_read 12 rfl) (by rw [hN]; decide) ?_
  refine z_sub (lo' := [some (zr 3), some (zr 1), some (zi x2), some (zr a3), some (zi 0)]) (zsub_s (zsub_s (zsub_s (zsub_s (zsub_s zsub_0))))) ?_
  obtain ⟨v13, w14, lv13, h⟩ := zl_some h
  refine bX6_read_L22 C hN ho hz hRm hZs zFU v6 x2 a3 0 _ lv13 p8 Rx2 ga3 (zR_c 0 rfl) (fun w1 q1 e1 hv13 Rw14 => ?_)
  obtain ⟨rfl, rfl⟩ := zpp e1
  refine z_aload_n C (zd tX6_read 29 rfl) rfl ?_
  refine gf_6_0 C (lg_3 ho) zic_6 (zm zwd_66) (zd tX6_read 30 rfl) ?_
  obtain ⟨rfl, rfl⟩ := zpi h
  exact ret.1 _ _ _ _ ⟨hv13, (hv13.1 _ _)⟩ rfl rfl rfl (zd tX6_read 31 rfl)
noncomputable def vsX11_rules : List Cond := .code yX11_rules cX11_rules 3 (some .int) :: zbig
abbrev rmX11_rules : Room := { frames := 10, cells := 0, slots := 0, locals := 219 }
theorem pX11_rules : yX11_rules.cls = RX11 ∧ yX11_rules.cls ≠ "java/lang/invoke/MethodHandle" ∧ yX11_rules.cls ≠ "java/lang/invoke/VarHandle" ∧ (parseMethodDescriptor yX11_rules.desc).map (fun d => d.parameters.length) = some 1 := by decide +kernel
set_option maxRecDepth 100000 in
set_option maxHeartbeats 4000000 in
theorem qX11_rules (l : Launch) (D : va_G) (ids : Nat → ClassId) (b : Nat) (ad adV : Nat → Nat) {x1 : Int} (Rx1 : zR x1) {v v' : zHp} {r' : Int} (hv : zV 0 137 v) (h : fX11_rules v x1 = some (v', r')) : zCTS l yX11_rules vsX11_rules rmX11_rules D ids b 0 False ad adV 137 [zr 0, zi x1] v 137 (zV 0 137 v' ∧ zR r') (some (zi r')) v' 0 0 := by
  refine zMetS (own := RX11) (by decide +kernel) (show vsX11_rules = _ from rfl) (Nat.le_of_ble_eq_true rfl) rfl ?_
  intro E hl hRm hD hids hb ho hz hN C hZs hname ret
  subst hl hD hids hb
  unfold fX11_rules at h
  refine z_iload_n C (zd tX11_rules 0 rfl) rfl ?_
  refine z_if_lt (tgt := 15) C Rx1 (zd tX11_rules 1 rfl) (by decide) h (fun h => ?_) (fun h => ?_)
  · refine z_iconst C (zd tX11_rules 7 rfl) ?_
    obtain ⟨rfl, rfl⟩ := zpi h
    exact ret.1 _ _ _ _ ⟨hv, (zR_c (-1) rfl)⟩ rfl rfl rfl (zd tX11_rules 8 rfl)
  · refine z_iload_n C (zd tX11_rules 2 rfl) rfl ?_
    refine z_aload_n C (zd tX11_rules 3 rfl) rfl ?_
    refine gl_11_0 (t := 1) C (lg_0 ho) zic_11 (zm zwd_400) (vl_11_0 ho hv (lg_0 ho)) (zd tX11_rules 4 rfl) ?_
    refine gf_9_1 C (lg_1 ho) zic_9 (zm zwd_39) (zd tX11_rules 5 rfl) ?_
    refine z_icmp_le (tgt := 17) C Rx1 (hv.1 _ _) (zd tX11_rules 6 rfl) (by decide) h (fun h => ?_) (fun h => ?_)
    · refine z_aload_n C (zd tX11_rules 9 rfl) rfl ?_
      refine gl_11_1 (t := 3) C (lg_0 ho) zic_11 (zm zwd_401) (vl_11_1 ho hv (lg_0 ho)) (zd tX11_rules 10 rfl) ?_
      refine z_aload_n C (zd tX11_rules 11 rfl) rfl ?_
      refine gl_11_0 (t := 1) C (lg_0 ho) zic_11 (zm zwd_400) (vl_11_0 ho hv (lg_0 ho)) (zd tX11_rules 12 rfl) ?_
      refine z_iload_n C (zd tX11_rules 13 rfl) rfl ?_
      refine z_aload_n C (zd tX11_rules 14 rfl) rfl ?_
      obtain ⟨u1, eu1, h⟩ := zb_some h
      obtain ⟨q2, h⟩ := zck_some h
      have gu1 := kg_7 ho q2.2
      refine gl_11_3 C (lg_0 ho) zic_11 (zm zwd_403) (zdyn q2.1 eu1) (zd tX11_rules 15 rfl) ?_
      obtain ⟨v3, r4, cv3, h⟩ := zcl_some h
      refine zc_VS C hZs.1 ho hz hRm (qX6_read _ _ _ _ _ _ Rx1 gu1.1 hv cv3) (lg_3 ho) (by decide) rfl (zgV zwd_447 zwd_448 zwd_449 zwd_3 zwd_450) rfl pX6_read rfl ⟨rfl, rfl⟩ ⟨Nat.le_of_ble_eq_true rfl, Nat.le_of_ble_eq_true rfl⟩ [] rfl (Nat.le_of_ble_eq_true rfl) (zd tX11_rules 16 rfl) [zi r4] rfl (fun p5 => ?_)
      refine z_istore_n C (zd tX11_rules 17 rfl) (by rw [hN]; decide) ?_
      refine z_aload_n C (zd tX11_rules 18 rfl) rfl ?_
      refine gl_11_0 (t := 1) C (lg_0 ho) zic_11 (zm zwd_400) (vl_11_0 ho p5.1 (lg_0 ho)) (zd tX11_rules 19 rfl) ?_
      refine z_iconst C (zd tX11_rules 20 rfl) ?_
      obtain ⟨v6, ev6, h⟩ := zb_some h
      have hv6 : zV 0 137 v6 := by rw [ev6]; exact p5.1.st (zR_c 0 rfl) (lg_1 ho).1 (Or.inr rfl)
      refine pf_9_1 C (lg_1 ho) zic_9 (zm zwd_39) ev6 (zd tX11_rules 21 rfl) ?_
      refine z_iload_n C (zd tX11_rules 22 rfl) rfl ?_
      refine z_iconst C (zd tX11_rules 23 rfl) ?_
      refine z_icmp_eq (tgt := 52) C p5.2 (zR_c (-1) rfl) (zd tX11_rules 24 rfl) (by decide) h (fun h => ?_) (fun h => ?_)
      · refine z_aload_n C (zd tX11_rules 29 rfl) rfl ?_
        obtain ⟨v7, r8, cv7, h⟩ := zcl_some h
        refine zc_V C ho hz hRm (qX11_replaceRules _ _ _ _ hv6 cv7) (lg_0 ho) (by decide) rfl (zgV zwd_584 zwd_586 zws_9 zwd_1 zwd_587) rfl pX11_replaceRules rfl ⟨rfl, rfl⟩ ⟨Nat.le_of_ble_eq_true rfl, Nat.le_of_ble_eq_true rfl⟩ [] rfl (Nat.le_of_ble_eq_true rfl) (zd tX11_rules 30 rfl) [] rfl (fun p9 => ?_)
        refine z_aload_n C (zd tX11_rules 31 rfl) rfl ?_
        obtain ⟨u10, eu10, h⟩ := zb_some h
        obtain ⟨q11, h⟩ := zck_some h
        have gu10 := kg_7 ho q11.2
        refine gl_11_2 C (lg_0 ho) zic_11 (zm zwd_402) (zdyn q11.1 eu10) (zd tX11_rules 32 rfl) ?_
        refine gf_7_2 C gu10 zic_7 (zm zwd_158) (zd tX11_rules 33 rfl) ?_
        obtain ⟨rfl, rfl⟩ := zpi h
        exact ret.1 _ _ _ _ ⟨p9, (p9.1 _ _)⟩ rfl rfl rfl (zd tX11_rules 34 rfl)
      · refine z_bipush C (by decide) (zd tX11_rules 25 rfl) ?_
        refine z_iload_n C (zd tX11_rules 26 rfl) rfl ?_
        refine z_isub C (zd tX11_rules 27 rfl) ?_
        obtain ⟨t12, et12, Rt12, h⟩ := zn_some h
        refine z_n0 (congrArg zI et12.symm) ?_
        obtain ⟨rfl, rfl⟩ := zpi h
        exact ret.1 _ _ _ _ ⟨hv6, Rt12⟩ rfl rfl rfl (zd tX11_rules 28 rfl)
    · refine z_iconst C (zd tX11_rules 7 rfl) ?_
      obtain ⟨rfl, rfl⟩ := zpi h
      exact ret.1 _ _ _ _ ⟨hv, (zR_c (-1) rfl)⟩ rfl rfl rfl (zd tX11_rules 8 rfl)
noncomputable def vsX11_span : List Cond := .code yX11_span cX11_span 5 (some .int) :: zbig
abbrev rmX11_span : Room := { frames := 7, cells := 0, slots := 0, locals := 186 }
theorem pX11_span : yX11_span.cls = RX11 ∧ yX11_span.cls ≠ "java/lang/invoke/MethodHandle" ∧ yX11_span.cls ≠ "java/lang/invoke/VarHandle" ∧ (parseMethodDescriptor yX11_span.desc).map (fun d => d.parameters.length) = some 3 := by decide +kernel
set_option maxRecDepth 100000 in
set_option maxHeartbeats 4000000 in
theorem qX11_span (l : Launch) (D : va_G) (ids : Nat → ClassId) (b : Nat) {x1 : Int} (Rx1 : zR x1) {x2 : Int} (Rx2 : zR x2) {x3 : Int} (Rx3 : zR x3) {v v' : zHp} {r' : Int} (hv : zV 0 137 v) (h : fX11_span v x1 x2 x3 = some (v', r')) : zCT l yX11_span vsX11_span rmX11_span D ids b 0 False 137 [zr 0, zi x1, zi x2, zi x3] v 137 (zV 0 137 v' ∧ zR r') (some (zi r')) v' 0 0 := by
  refine zMet (own := RX11) (by decide +kernel) (show vsX11_span = _ from rfl) (Nat.le_of_ble_eq_true rfl) rfl ?_
  intro E hl hRm hD hids hb ho hz hN C hname ret
  subst hl hD hids hb
  unfold fX11_span at h
  refine z_iload_n C (zd tX11_span 0 rfl) rfl ?_
  obtain ⟨v1, r2, cv1, h⟩ := zcl_some h
  refine zc_S C ho hz hRm (qX11_isWorker _ _ _ _ Rx1 hv cv1) (zgS zwd_633 zwd_634 zwd_1 zwd_635) rfl pX11_isWorker rfl ⟨rfl, rfl⟩ ⟨Nat.le_of_ble_eq_true rfl, Nat.le_of_ble_eq_true rfl⟩ [] rfl (Nat.le_of_ble_eq_true rfl) (zd tX11_span 1 rfl) [zi r2] rfl (fun p3 => ?_)
  refine z_if_ne (tgt := 9) C p3.2 (zd tX11_span 2 rfl) (by decide) h (fun h => ?_) (fun h => ?_)
  · refine z_aload_n C (zd tX11_span 5 rfl) rfl ?_
    refine z_iload_n C (zd tX11_span 6 rfl) rfl ?_
    obtain ⟨v4, r5, cv4, h⟩ := zcl_some h
    refine zc_V C ho hz hRm (qX11_sheetOf _ _ _ _ Rx1 p3.1 cv4) (lg_0 ho) (by decide) rfl (zgV zwd_673 zwd_675 zws_12 zwd_1 zwd_676) rfl pX11_sheetOf rfl ⟨rfl, rfl⟩ ⟨Nat.le_of_ble_eq_true rfl, Nat.le_of_ble_eq_true rfl⟩ [] rfl (Nat.le_of_ble_eq_true rfl) (zd tX11_span 7 rfl) [zr (r5).toNat] rfl (fun p6 => ?_)
    obtain ⟨u7, eu7, h⟩ := zb_some h
    have gu7 := kg_8 ho (show zK u7 = _ by rw [eu7]; exact p6.2.2)
    refine z_r0 eu7.symm ?_
    refine z_astore C (zd tX11_span 8 rfl) (by rw [hN]; decide) ?_
    refine z_iload_n C (zd tX11_span 9 rfl) rfl ?_
    refine z_iconst C (zd tX11_span 10 rfl) ?_
    refine z_icmp_ne (tgt := 27) C Rx2 (zR_c (-1) rfl) (zd tX11_span 11 rfl) (by decide) h (fun h => ?_) (fun h => ?_)
    · refine z_iload_n C (zd tX11_span 15 rfl) rfl ?_
      refine z_if_lt (tgt := 40) C Rx2 (zd tX11_span 16 rfl) (by decide) h (fun h => ?_) (fun h => ?_)
      · refine z_iconst C (zd tX11_span 21 rfl) ?_
        obtain ⟨rfl, rfl⟩ := zpi h
        exact ret.1 _ _ _ _ ⟨p6.1, (zR_c (-1) rfl)⟩ rfl rfl rfl (zd tX11_span 22 rfl)
      · refine z_iload_n C (zd tX11_span 17 rfl) rfl ?_
        refine z_aload C (zd tX11_span 18 rfl) rfl ?_
        refine gf_8_5 C gu7 zic_8 (zm zwd_267) (zd tX11_span 19 rfl) ?_
        refine z_icmp_lt (tgt := 42) C Rx2 (p6.1.1 _ _) (zd tX11_span 20 rfl) (by decide) h (fun h => ?_) (fun h => ?_)
        · refine z_iload_n C (zd tX11_span 23 rfl) rfl ?_
          by_cases c43_0 : x3 = 0
          · rw [if_pos c43_0] at h
            refine z_tblIn (tgt := 68) C Rx3 c43_0 (zd tX11_span 24 rfl) (by decide) (by decide) rfl (by decide) ?_
            refine z_aload C (zd tX11_span 25 rfl) rfl ?_
            refine gl_8_2 C gu7 zic_8 (zm zwd_261) (vl_8_2 ho p6.1 gu7) (zd tX11_span 26 rfl) ?_
            refine z_iload_n C (zd tX11_span 27 rfl) rfl ?_
            obtain ⟨q8, h⟩ := zck_some h
            refine za_iald C (lk_8_2 ho gu7) rfl (by decide) q8 (zd tX11_span 28 rfl) ?_
            obtain ⟨rfl, rfl⟩ := zpi h
            exact ret.1 _ _ _ _ ⟨p6.1, (p6.1.1 _ _)⟩ rfl rfl rfl (zd tX11_span 29 rfl)
          rw [if_neg c43_0] at h
          by_cases c43_1 : x3 = 1
          · rw [if_pos c43_1] at h
            refine z_tblIn (tgt := 76) C Rx3 c43_1 (zd tX11_span 24 rfl) (by decide) (by decide) rfl (by decide) ?_
            refine z_aload C (zd tX11_span 30 rfl) rfl ?_
            refine gl_8_3 C gu7 zic_8 (zm zwd_263) (vl_8_3 ho p6.1 gu7) (zd tX11_span 31 rfl) ?_
            refine z_iload_n C (zd tX11_span 32 rfl) rfl ?_
            obtain ⟨q9, h⟩ := zck_some h
            refine za_iald C (lk_8_3 ho gu7) rfl (by decide) q9 (zd tX11_span 33 rfl) ?_
            obtain ⟨rfl, rfl⟩ := zpi h
            exact ret.1 _ _ _ _ ⟨p6.1, (p6.1.1 _ _)⟩ rfl rfl rfl (zd tX11_span 34 rfl)
          rw [if_neg c43_1] at h
          by_cases c43_2 : x3 = 2
          · rw [if_pos c43_2] at h
            refine z_tblIn (tgt := 84) C Rx3 c43_2 (zd tX11_span 24 rfl) (by decide) (by decide) rfl (by decide) ?_
            refine z_aload C (zd tX11_span 35 rfl) rfl ?_
            refine gl_8_4 C gu7 zic_8 (zm zwd_265) (vl_8_4 ho p6.1 gu7) (zd tX11_span 36 rfl) ?_
            refine z_iload_n C (zd tX11_span 37 rfl) rfl ?_
            obtain ⟨q10, h⟩ := zck_some h
            refine za_iald C (lk_8_4 ho gu7) rfl (by decide) q10 (zd tX11_span 38 rfl) ?_
            obtain ⟨rfl, rfl⟩ := zpi h
            exact ret.1 _ _ _ _ ⟨p6.1, (p6.1.1 _ _)⟩ rfl rfl rfl (zd tX11_span 39 rfl)
          rw [if_neg c43_2] at h
          refine z_tblOut (tgt := 92) C Rx3 (by omega) (zd tX11_span 24 rfl) (by decide) ?_
          refine z_iconst C (zd tX11_span 40 rfl) ?_
          obtain ⟨rfl, rfl⟩ := zpi h
          exact ret.1 _ _ _ _ ⟨p6.1, (zR_c (-1) rfl)⟩ rfl rfl rfl (zd tX11_span 41 rfl)
        · refine z_iconst C (zd tX11_span 21 rfl) ?_
          obtain ⟨rfl, rfl⟩ := zpi h
          exact ret.1 _ _ _ _ ⟨p6.1, (zR_c (-1) rfl)⟩ rfl rfl rfl (zd tX11_span 22 rfl)
    · refine z_aload C (zd tX11_span 12 rfl) rfl ?_
      refine gf_8_5 C gu7 zic_8 (zm zwd_267) (zd tX11_span 13 rfl) ?_
      obtain ⟨rfl, rfl⟩ := zpi h
      exact ret.1 _ _ _ _ ⟨p6.1, (p6.1.1 _ _)⟩ rfl rfl rfl (zd tX11_span 14 rfl)
  · refine z_iconst C (zd tX11_span 3 rfl) ?_
    obtain ⟨rfl, rfl⟩ := zpi h
    exact ret.1 _ _ _ _ ⟨p3.1, (zR_c (-1) rfl)⟩ rfl rfl rfl (zd tX11_span 4 rfl)
noncomputable def vsX1_removeAt : List Cond := .code yX1_removeAt cX1_removeAt 3 none :: zbig
abbrev rmX1_removeAt : Room := { frames := 0, cells := 0, slots := 0, locals := 0 }
theorem pX1_removeAt : yX1_removeAt.cls = RX1 ∧ yX1_removeAt.cls ≠ "java/lang/invoke/MethodHandle" ∧ yX1_removeAt.cls ≠ "java/lang/invoke/VarHandle" ∧ (parseMethodDescriptor yX1_removeAt.desc).map (fun d => d.parameters.length) = some 1 := by decide +kernel
set_option maxRecDepth 100000 in
set_option maxHeartbeats 4000000 in
theorem bX1_removeAt_L25 {E : zE} (C : zC E 137 cX1_removeAt RX1 vsX1_removeAt) (hN : zEN E = 3) (ho : zEo E = 0) (hz : zEz E = False) (hRm : zER E = rmX1_removeAt) : ∀ (fu : Nat) (v : zHp) (a0 : Nat) (x2 : Int) (res : (zHp × (Int))), fX1_removeAt_L25 fu v a0 x2 = some res → zV 0 137 v → zG E 137 a0 1 3 → zR x2 → (∀ (w : zHp) (q : Int), res = (w, q) → zV 0 137 w → True → zX E 0 0 137 w 67 [none, none, none] []) → zX E 0 0 137 v 25 [some (zr a0), none, some (zi x2)] [] := by
  intro fu
  induction fu with
  | zero =>
    intro v _ _ res h
    cases h
  | succ fu ih =>
    intro v a0 x2 res h hv ga0 Rx2 K1
    rw [fX1_removeAt_L25.eq_2] at h
    refine z_iload_n C (zd tX1_removeAt 15 rfl) rfl ?_
    refine z_aload_n C (zd tX1_removeAt 16 rfl) rfl ?_
    refine gf_1_2 C ga0 zic_1 (zm zwd_221) (zd tX1_removeAt 17 rfl) ?_
    refine z_icmp_ge (tgt := 67) C Rx2 (hv.1 _ _) (zd tX1_removeAt 18 rfl) (by decide) h (fun h => ?_) (fun h => ?_)
    · refine z_sub (lo' := [none, none, none]) (zsub_n (zsub_n (zsub_n zsub_0))) ?_
      exact K1 _ _ (Option.some.inj h).symm hv trivial
    · refine z_aload_n C (zd tX1_removeAt 19 rfl) rfl ?_
      refine gl_1_0 C ga0 zic_1 (zm zwd_215) (vl_1_0 ho hv ga0) (zd tX1_removeAt 20 rfl) ?_
      refine z_iload_n C (zd tX1_removeAt 21 rfl) rfl ?_
      refine z_aload_n C (zd tX1_removeAt 22 rfl) rfl ?_
      refine gl_1_0 C ga0 zic_1 (zm zwd_215) (vl_1_0 ho hv ga0) (zd tX1_removeAt 23 rfl) ?_
      refine z_iload_n C (zd tX1_removeAt 24 rfl) rfl ?_
      refine z_iconst C (zd tX1_removeAt 25 rfl) ?_
      refine z_iadd C (zd tX1_removeAt 26 rfl) ?_
      obtain ⟨q3, h⟩ := zck_some h
      refine za_iald C (lk_1_0 ho ga0) rfl (by decide) q3 (zd tX1_removeAt 27 rfl) ?_
      obtain ⟨q4, h⟩ := zck_some h
      obtain ⟨v5, ev5, h⟩ := zb_some h
      have hv5 : zV 0 137 v5 := by rw [ev5]; exact hv.st (hv.1 _ _) (lk_1_0 ho ga0).1 (Or.inr rfl)
      refine za_iast C (lk_1_0 ho ga0) rfl (by decide) q4 ev5 (zd tX1_removeAt 28 rfl) ?_
      refine z_aload_n C (zd tX1_removeAt 29 rfl) rfl ?_
      refine gl_1_1 C ga0 zic_1 (zm zwd_218) (vl_1_1 ho hv5 ga0) (zd tX1_removeAt 30 rfl) ?_
      refine z_iload_n C (zd tX1_removeAt 31 rfl) rfl ?_
      refine z_aload_n C (zd tX1_removeAt 32 rfl) rfl ?_
      refine gl_1_1 C ga0 zic_1 (zm zwd_218) (vl_1_1 ho hv5 ga0) (zd tX1_removeAt 33 rfl) ?_
      refine z_iload_n C (zd tX1_removeAt 34 rfl) rfl ?_
      refine z_iconst C (zd tX1_removeAt 35 rfl) ?_
      refine z_iadd C (zd tX1_removeAt 36 rfl) ?_
      obtain ⟨q6, h⟩ := zck_some h
      refine za_iald C (lk_1_1 ho ga0) rfl (by decide) q6 (zd tX1_removeAt 37 rfl) ?_
      obtain ⟨q7, h⟩ := zck_some h
      obtain ⟨v8, ev8, h⟩ := zb_some h
      have hv8 : zV 0 137 v8 := by rw [ev8]; exact hv5.st (hv5.1 _ _) (lk_1_1 ho ga0).1 (Or.inr rfl)
      refine za_iast C (lk_1_1 ho ga0) rfl (by decide) q7 ev8 (zd tX1_removeAt 38 rfl) ?_
      obtain ⟨t9, et9, Rt9, h⟩ := zn_some h
      refine z_iincE C (zd tX1_removeAt 39 rfl) (by rw [hN]; decide) rfl et9 ?_
      refine z_goto (tgt := 25) C (zd tX1_removeAt 40 rfl) (by decide) ?_
      refine z_sub (lo' := [some (zr a0), none, some (zi t9)]) (zsub_s (zsub_n (zsub_s zsub_0))) ?_
      exact ih v8 a0 t9 _ h hv8 ga0 Rt9 K1
set_option maxRecDepth 100000 in
set_option maxHeartbeats 4000000 in
theorem qX1_removeAt (l : Launch) (D : va_G) (ids : Nat → ClassId) (b : Nat) {a0 : Nat} (k0 : zK a0 = (1, 3)) {x1 : Int} (Rx1 : zR x1) {v v' : zHp} {r' : Int} (hv : zV 0 137 v) (h : fX1_removeAt v a0 x1 = some (v', r')) : zCT l yX1_removeAt vsX1_removeAt rmX1_removeAt D ids b 0 False 137 [zr a0, zi x1] v 137 (zV 0 137 v') none v' 0 0 := by
  refine zMet (own := RX1) (by decide +kernel) (show vsX1_removeAt = _ from rfl) (Nat.le_of_ble_eq_true rfl) rfl ?_
  intro E hl hRm hD hids hb ho hz hN C hname ret
  subst hl hD hids hb
  have ga0 := kg_1 ho k0
  unfold fX1_removeAt at h
  refine z_iload_n C (zd tX1_removeAt 0 rfl) rfl ?_
  refine z_if_lt (tgt := 12) C Rx1 (zd tX1_removeAt 1 rfl) (by decide) h (fun h => ?_) (fun h => ?_)
  · obtain ⟨rfl, rfl⟩ := zpi h
    exact ret.2.1 _ _ hv rfl rfl (zd tX1_removeAt 6 rfl)
  · refine z_iload_n C (zd tX1_removeAt 2 rfl) rfl ?_
    refine z_aload_n C (zd tX1_removeAt 3 rfl) rfl ?_
    refine gf_1_2 C ga0 zic_1 (zm zwd_221) (zd tX1_removeAt 4 rfl) ?_
    refine z_icmp_lt (tgt := 13) C Rx1 (hv.1 _ _) (zd tX1_removeAt 5 rfl) (by decide) h (fun h => ?_) (fun h => ?_)
    · refine z_aload_n C (zd tX1_removeAt 7 rfl) rfl ?_
      refine z_dup C (zd tX1_removeAt 8 rfl) ?_
      refine gf_1_2 C ga0 zic_1 (zm zwd_221) (zd tX1_removeAt 9 rfl) ?_
      refine z_iconst C (zd tX1_removeAt 10 rfl) ?_
      refine z_isub C (zd tX1_removeAt 11 rfl) ?_
      obtain ⟨t1, et1, Rt1, h⟩ := zn_some h
      refine z_n0 (congrArg zI et1.symm) ?_
      obtain ⟨v2, ev2, h⟩ := zb_some h
      have hv2 : zV 0 137 v2 := by rw [ev2]; exact hv.st Rt1 ga0.1 (Or.inr rfl)
      refine pf_1_2 C ga0 zic_1 (zm zwd_221) ev2 (zd tX1_removeAt 12 rfl) ?_
      refine z_iload_n C (zd tX1_removeAt 13 rfl) rfl ?_
      refine z_istore_n C (zd tX1_removeAt 14 rfl) (by rw [hN]; decide) ?_
      refine z_sub (lo' := [some (zr a0), none, some (zi x1)]) (zsub_s (zsub_n (zsub_s zsub_0))) ?_
      obtain ⟨v10, w11, lv10, h⟩ := zl_some h
      refine bX1_removeAt_L25 C hN ho hz hRm zFU v2 a0 x1 _ lv10 hv2 ga0 Rx1 (fun w1 q1 e1 hv10 Rw11 => ?_)
      obtain ⟨rfl, rfl⟩ := zpp e1
      obtain ⟨rfl, rfl⟩ := zpi h
      exact ret.2.1 _ _ hv10 rfl rfl (zd tX1_removeAt 41 rfl)
    · obtain ⟨rfl, rfl⟩ := zpi h
      exact ret.2.1 _ _ hv rfl rfl (zd tX1_removeAt 6 rfl)
noncomputable def vsX11_strike : List Cond := .code yX11_strike cX11_strike 7 (some .int) :: zbig
abbrev rmX11_strike : Room := { frames := 2, cells := 0, slots := 0, locals := 45 }
theorem pX11_strike : yX11_strike.cls = RX11 ∧ yX11_strike.cls ≠ "java/lang/invoke/MethodHandle" ∧ yX11_strike.cls ≠ "java/lang/invoke/VarHandle" ∧ (parseMethodDescriptor yX11_strike.desc).map (fun d => d.parameters.length) = some 4 := by decide +kernel
set_option maxRecDepth 100000 in
set_option maxHeartbeats 4000000 in
theorem qX11_strike (l : Launch) (D : va_G) (ids : Nat → ClassId) (b : Nat) {x1 : Int} (Rx1 : zR x1) {x2 : Int} (Rx2 : zR x2) {x3 : Int} (Rx3 : zR x3) {x4 : Int} (Rx4 : zR x4) {v v' : zHp} {r' : Int} (hv : zV 0 137 v) (h : fX11_strike v x1 x2 x3 x4 = some (v', r')) : zCT l yX11_strike vsX11_strike rmX11_strike D ids b 0 False 137 [zr 0, zi x1, zi x2, zi x3, zi x4] v 137 (zV 0 137 v' ∧ zR r') (some (zi r')) v' 0 0 := by
  refine zMet (own := RX11) (by decide +kernel) (show vsX11_strike = _ from rfl) (Nat.le_of_ble_eq_true rfl) rfl ?_
  intro E hl hRm hD hids hb ho hz hN C hname ret
  subst hl hD hids hb
  unfold fX11_strike at h
  refine z_aload_n C (zd tX11_strike 0 rfl) rfl ?_
  obtain ⟨u1, eu1, h⟩ := zb_some h
  obtain ⟨q2, h⟩ := zck_some h
  have gu1 := kg_7 ho q2.2
  refine gl_11_2 C (lg_0 ho) zic_11 (zm zwd_402) (zdyn q2.1 eu1) (zd tX11_strike 1 rfl) ?_
  refine gl_7_0 C gu1 zic_7 (zm zwd_151) (vl_7_0 ho hv gu1) (zd tX11_strike 2 rfl) ?_
  refine z_iload_n C (zd tX11_strike 3 rfl) rfl ?_
  refine z_iload_n C (zd tX11_strike 4 rfl) rfl ?_
  refine z_iload C (zd tX11_strike 5 rfl) rfl ?_
  obtain ⟨v3, r4, cv3, h⟩ := zcl_some h
  refine zc_V C ho hz hRm (qX2_momentAt _ _ _ _ (lk_7_0 ho gu1).1 Rx2 Rx3 Rx4 hv cv3) (lk_7_0 ho gu1) (by decide) rfl (zgV zwd_605 zwd_606 zwd_607 zwd_5 zwd_608) rfl pX2_momentAt rfl ⟨rfl, rfl⟩ ⟨Nat.le_of_ble_eq_true rfl, Nat.le_of_ble_eq_true rfl⟩ [] rfl (Nat.le_of_ble_eq_true rfl) (zd tX11_strike 6 rfl) [zi r4] rfl (fun p5 => ?_)
  refine z_istore C (zd tX11_strike 7 rfl) (by rw [hN]; decide) ?_
  refine z_iload_n C (zd tX11_strike 8 rfl) rfl ?_
  obtain ⟨v6, r7, cv6, h⟩ := zcl_some h
  refine zc_S C ho hz hRm (qX11_isWorker _ _ _ _ Rx1 p5.1 cv6) (zgS zwd_633 zwd_634 zwd_1 zwd_635) rfl pX11_isWorker rfl ⟨rfl, rfl⟩ ⟨Nat.le_of_ble_eq_true rfl, Nat.le_of_ble_eq_true rfl⟩ [] rfl (Nat.le_of_ble_eq_true rfl) (zd tX11_strike 9 rfl) [zi r7] rfl (fun p8 => ?_)
  refine z_if_eq (tgt := 29) C p8.2 (zd tX11_strike 10 rfl) (by decide) h (fun h => ?_) (fun h => ?_)
  · refine z_iconst C (zd tX11_strike 14 rfl) ?_
    obtain ⟨rfl, rfl⟩ := zpi h
    exact ret.1 _ _ _ _ ⟨p8.1, (zR_c (-1) rfl)⟩ rfl rfl rfl (zd tX11_strike 15 rfl)
  · refine z_iload C (zd tX11_strike 11 rfl) rfl ?_
    refine z_iconst C (zd tX11_strike 12 rfl) ?_
    refine z_icmp_ne (tgt := 31) C p5.2 (zR_c (-1) rfl) (zd tX11_strike 13 rfl) (by decide) h (fun h => ?_) (fun h => ?_)
    · refine z_aload_n C (zd tX11_strike 16 rfl) rfl ?_
      refine gl_11_4 (t := 28) C (lg_0 ho) zic_11 (zm zwd_404) (vl_11_4 ho p8.1 (lg_0 ho)) (zd tX11_strike 17 rfl) ?_
      refine z_iload_n C (zd tX11_strike 18 rfl) rfl ?_
      obtain ⟨q9, h⟩ := zck_some h
      obtain ⟨u10, eu10, h⟩ := zb_some h
      have gu10 := ge_Card ho (lg_28 ho) q9 eu10
      refine ra_Card C ho p8.1 (lg_28 ho) q9 eu10 (zd tX11_strike 19 rfl) ?_
      refine z_iload C (zd tX11_strike 20 rfl) rfl ?_
      obtain ⟨v11, r12, cv11, h⟩ := zcl_some h
      refine zc_V C ho hz hRm (qX1_find _ _ _ _ gu10.1 p5.2 p8.1 cv11) gu10 (by decide) rfl (zgV zwd_660 zwd_641 zwd_642 zwd_7 zwd_643) rfl pX1_find rfl ⟨rfl, rfl⟩ ⟨Nat.le_of_ble_eq_true rfl, Nat.le_of_ble_eq_true rfl⟩ [] rfl (Nat.le_of_ble_eq_true rfl) (zd tX11_strike 21 rfl) [zi r12] rfl (fun p13 => ?_)
      refine z_istore C (zd tX11_strike 22 rfl) (by rw [hN]; decide) ?_
      refine z_iload C (zd tX11_strike 23 rfl) rfl ?_
      refine z_iconst C (zd tX11_strike 24 rfl) ?_
      refine z_icmp_ne (tgt := 52) C p13.2 (zR_c (-1) rfl) (zd tX11_strike 25 rfl) (by decide) h (fun h => ?_) (fun h => ?_)
      · refine z_aload_n C (zd tX11_strike 28 rfl) rfl ?_
        refine gl_11_6 (t := 102) C (lg_0 ho) zic_11 (zm zwd_406) (vl_11_6 ho p13.1 (lg_0 ho)) (zd tX11_strike 29 rfl) ?_
        refine z_iload_n C (zd tX11_strike 30 rfl) rfl ?_
        refine z_iload C (zd tX11_strike 31 rfl) rfl ?_
        refine z_aload_n C (zd tX11_strike 32 rfl) rfl ?_
        refine gl_11_4 (t := 28) C (lg_0 ho) zic_11 (zm zwd_404) (vl_11_4 ho p13.1 (lg_0 ho)) (zd tX11_strike 33 rfl) ?_
        refine z_iload_n C (zd tX11_strike 34 rfl) rfl ?_
        obtain ⟨q14, h⟩ := zck_some h
        obtain ⟨u15, eu15, h⟩ := zb_some h
        have gu15 := ge_Card ho (lg_28 ho) q14 eu15
        refine ra_Card C ho p13.1 (lg_28 ho) q14 eu15 (zd tX11_strike 35 rfl) ?_
        refine gl_1_1 C gu15 zic_1 (zm zwd_220) (vl_1_1 ho p13.1 gu15) (zd tX11_strike 36 rfl) ?_
        refine z_iload C (zd tX11_strike 37 rfl) rfl ?_
        obtain ⟨q16, h⟩ := zck_some h
        refine za_iald C (lk_1_1 ho gu15) rfl (by decide) q16 (zd tX11_strike 38 rfl) ?_
        refine z_iconst C (zd tX11_strike 39 rfl) ?_
        obtain ⟨v17, r18, cv17, h⟩ := zcl_some h
        refine zc_V C ho hz hRm (qX3_keep _ _ _ _ Rx1 p5.2 (p13.1.1 _ _) (zR_c 0 rfl) p13.1 cv17) (lg_102 ho) (by decide) rfl (zgV zwd_648 zwd_649 zwd_650 zwd_10 zwd_651) rfl pX3_keep rfl ⟨rfl, rfl⟩ ⟨Nat.le_of_ble_eq_true rfl, Nat.le_of_ble_eq_true rfl⟩ [] rfl (Nat.le_of_ble_eq_true rfl) (zd tX11_strike 40 rfl) [] rfl (fun p19 => ?_)
        refine z_aload_n C (zd tX11_strike 41 rfl) rfl ?_
        refine gl_11_4 (t := 28) C (lg_0 ho) zic_11 (zm zwd_404) (vl_11_4 ho p19 (lg_0 ho)) (zd tX11_strike 42 rfl) ?_
        refine z_iload_n C (zd tX11_strike 43 rfl) rfl ?_
        obtain ⟨q20, h⟩ := zck_some h
        obtain ⟨u21, eu21, h⟩ := zb_some h
        have gu21 := ge_Card ho (lg_28 ho) q20 eu21
        refine ra_Card C ho p19 (lg_28 ho) q20 eu21 (zd tX11_strike 44 rfl) ?_
        refine z_iload C (zd tX11_strike 45 rfl) rfl ?_
        obtain ⟨v22, r23, cv22, h⟩ := zcl_some h
        refine zc_V C ho hz hRm (qX1_removeAt _ _ _ _ gu21.1 p13.2 p19 cv22) gu21 (by decide) rfl (zgV zwd_661 zwd_662 zwd_663 zwd_7 zwd_664) rfl pX1_removeAt rfl ⟨rfl, rfl⟩ ⟨Nat.le_of_ble_eq_true rfl, Nat.le_of_ble_eq_true rfl⟩ [] rfl (Nat.le_of_ble_eq_true rfl) (zd tX11_strike 46 rfl) [] rfl (fun p24 => ?_)
        refine z_aload_n C (zd tX11_strike 47 rfl) rfl ?_
        refine gl_11_5 (t := 29) C (lg_0 ho) zic_11 (zm zwd_405) (vl_11_5 ho p24 (lg_0 ho)) (zd tX11_strike 48 rfl) ?_
        refine z_iload_n C (zd tX11_strike 49 rfl) rfl ?_
        obtain ⟨q25, h⟩ := zck_some h
        obtain ⟨u26, eu26, h⟩ := zb_some h
        have gu26 := ge_Sheet ho (lg_29 ho) q25 eu26
        refine ra_Sheet C ho p24 (lg_29 ho) q25 eu26 (zd tX11_strike 50 rfl) ?_
        refine z_iconst C (zd tX11_strike 51 rfl) ?_
        obtain ⟨v27, ev27, h⟩ := zb_some h
        have hv27 : zV 0 137 v27 := by rw [ev27]; exact p24.st (zR_c 1 rfl) gu26.1 (Or.inr rfl)
        refine pf_8_0 C gu26 zic_8 (zm zwd_257) (by decide) ev27 (zd tX11_strike 52 rfl) ?_
        refine z_aload_n C (zd tX11_strike 53 rfl) rfl ?_
        refine gl_11_4 (t := 28) C (lg_0 ho) zic_11 (zm zwd_404) (vl_11_4 ho hv27 (lg_0 ho)) (zd tX11_strike 54 rfl) ?_
        refine z_iload_n C (zd tX11_strike 55 rfl) rfl ?_
        obtain ⟨q28, h⟩ := zck_some h
        obtain ⟨u29, eu29, h⟩ := zb_some h
        have gu29 := ge_Card ho (lg_28 ho) q28 eu29
        refine ra_Card C ho hv27 (lg_28 ho) q28 eu29 (zd tX11_strike 56 rfl) ?_
        refine gf_1_2 C gu29 zic_1 (zm zwd_222) (zd tX11_strike 57 rfl) ?_
        obtain ⟨rfl, rfl⟩ := zpi h
        exact ret.1 _ _ _ _ ⟨hv27, (hv27.1 _ _)⟩ rfl rfl rfl (zd tX11_strike 58 rfl)
      · refine z_iconst C (zd tX11_strike 26 rfl) ?_
        obtain ⟨rfl, rfl⟩ := zpi h
        exact ret.1 _ _ _ _ ⟨p13.1, (zR_c (-1) rfl)⟩ rfl rfl rfl (zd tX11_strike 27 rfl)
    · refine z_iconst C (zd tX11_strike 14 rfl) ?_
      obtain ⟨rfl, rfl⟩ := zpi h
      exact ret.1 _ _ _ _ ⟨p8.1, (zR_c (-1) rfl)⟩ rfl rfl rfl (zd tX11_strike 15 rfl)
noncomputable def vsX11_together : List Cond := .code yX11_together cX11_together 8 (some .int) :: zbig
abbrev rmX11_together : Room := { frames := 7, cells := 0, slots := 0, locals := 186 }
theorem pX11_together : yX11_together.cls = RX11 ∧ yX11_together.cls ≠ "java/lang/invoke/MethodHandle" ∧ yX11_together.cls ≠ "java/lang/invoke/VarHandle" ∧ (parseMethodDescriptor yX11_together.desc).map (fun d => d.parameters.length) = some 2 := by decide +kernel
set_option maxRecDepth 100000 in
set_option maxHeartbeats 4000000 in
theorem bX11_together_L60 {E : zE} (C : zC E 137 cX11_together RX11 vsX11_together) (hN : zEN E = 8) (ho : zEo E = 0) (hz : zEz E = False) (hRm : zER E = rmX11_together) : ∀ (fu : Nat) (v : zHp) (a3 : Nat) (a4 : Nat) (x5 : Int) (x6 : Int) (x7 : Int) (res : (zHp × (Int))), fX11_together_L60 fu v a3 a4 x5 x6 x7 = some res → zV 0 137 v → zG E 137 a3 20 2692 → zG E 137 a4 20 2692 → zR x5 → zR x6 → zR x7 → (∀ (w : zHp) (q : Int), res = (w, q) → zV 0 137 w → zR q → zX E 0 0 137 w 95 [none, none, none, none, none, none, some (zi q), none] []) → zX E 0 0 137 v 60 [none, none, none, some (zr a3), some (zr a4), some (zi x5), some (zi x6), some (zi x7)] [] := by
  intro fu
  induction fu with
  | zero =>
    intro v _ _ _ _ _ res h
    cases h
  | succ fu ih =>
    intro v a3 a4 x5 x6 x7 res h hv ga3 ga4 Rx5 Rx6 Rx7 K1
    rw [fX11_together_L60.eq_2] at h
    refine z_iload C (zd tX11_together 31 rfl) rfl ?_
    refine z_iload C (zd tX11_together 32 rfl) rfl ?_
    refine z_icmp_ge (tgt := 95) C Rx7 Rx5 (zd tX11_together 33 rfl) (by decide) h (fun h => ?_) (fun h => ?_)
    · refine z_sub (lo' := [none, none, none, none, none, none, some (zi x6), none]) (zsub_n (zsub_n (zsub_n (zsub_n (zsub_n (zsub_n (zsub_s (zsub_n zsub_0)))))))) ?_
      exact K1 _ _ (Option.some.inj h).symm hv Rx6
    · refine z_aload_n C (zd tX11_together 34 rfl) rfl ?_
      refine z_iload C (zd tX11_together 35 rfl) rfl ?_
      obtain ⟨q20, h⟩ := zck_some h
      refine za_iald C ga3 rfl (by decide) q20 (zd tX11_together 36 rfl) ?_
      refine z_bipush C (by decide) (zd tX11_together 37 rfl) ?_
      refine z_icmp_eq (tgt := 89) C (hv.1 _ _) (zR_c (-2) rfl) (zd tX11_together 38 rfl) (by decide) h (fun h => ?_) (fun h => ?_)
      · obtain ⟨t21, et21, Rt21, h⟩ := zn_some h
        refine z_iincE C (zd tX11_together 45 rfl) (by rw [hN]; decide) rfl et21 ?_
        refine z_goto (tgt := 60) C (zd tX11_together 46 rfl) (by decide) ?_
        refine z_sub (lo' := [none, none, none, some (zr a3), some (zr a4), some (zi x5), some (zi x6), some (zi t21)]) (zsub_n (zsub_n (zsub_n (zsub_s (zsub_s (zsub_s (zsub_s (zsub_s zsub_0)))))))) ?_
        exact ih v a3 a4 x5 x6 t21 _ h hv ga3 ga4 Rx5 Rx6 Rt21 K1
      · refine z_aload C (zd tX11_together 39 rfl) rfl ?_
        refine z_iload C (zd tX11_together 40 rfl) rfl ?_
        obtain ⟨q22, h⟩ := zck_some h
        refine za_iald C ga4 rfl (by decide) q22 (zd tX11_together 41 rfl) ?_
        refine z_bipush C (by decide) (zd tX11_together 42 rfl) ?_
        refine z_icmp_eq (tgt := 89) C (hv.1 _ _) (zR_c (-2) rfl) (zd tX11_together 43 rfl) (by decide) h (fun h => ?_) (fun h => ?_)
        · obtain ⟨t23, et23, Rt23, h⟩ := zn_some h
          refine z_iincE C (zd tX11_together 45 rfl) (by rw [hN]; decide) rfl et23 ?_
          refine z_goto (tgt := 60) C (zd tX11_together 46 rfl) (by decide) ?_
          refine z_sub (lo' := [none, none, none, some (zr a3), some (zr a4), some (zi x5), some (zi x6), some (zi t23)]) (zsub_n (zsub_n (zsub_n (zsub_s (zsub_s (zsub_s (zsub_s (zsub_s zsub_0)))))))) ?_
          exact ih v a3 a4 x5 x6 t23 _ h hv ga3 ga4 Rx5 Rx6 Rt23 K1
        · obtain ⟨t24, et24, Rt24, h⟩ := zn_some h
          refine z_iincE C (zd tX11_together 44 rfl) (by rw [hN]; decide) rfl et24 ?_
          obtain ⟨t25, et25, Rt25, h⟩ := zn_some h
          refine z_iincE C (zd tX11_together 45 rfl) (by rw [hN]; decide) rfl et25 ?_
          refine z_goto (tgt := 60) C (zd tX11_together 46 rfl) (by decide) ?_
          refine z_sub (lo' := [none, none, none, some (zr a3), some (zr a4), some (zi x5), some (zi t24), some (zi t25)]) (zsub_n (zsub_n (zsub_n (zsub_s (zsub_s (zsub_s (zsub_s (zsub_s zsub_0)))))))) ?_
          exact ih v a3 a4 x5 t24 t25 _ h hv ga3 ga4 Rx5 Rt24 Rt25 K1
set_option maxRecDepth 100000 in
set_option maxHeartbeats 4000000 in
theorem qX11_together (l : Launch) (D : va_G) (ids : Nat → ClassId) (b : Nat) {x1 : Int} (Rx1 : zR x1) {x2 : Int} (Rx2 : zR x2) {v v' : zHp} {r' : Int} (hv : zV 0 137 v) (h : fX11_together v x1 x2 = some (v', r')) : zCT l yX11_together vsX11_together rmX11_together D ids b 0 False 137 [zr 0, zi x1, zi x2] v 137 (zV 0 137 v' ∧ zR r') (some (zi r')) v' 0 0 := by
  refine zMet (own := RX11) (by decide +kernel) (show vsX11_together = _ from rfl) (Nat.le_of_ble_eq_true rfl) rfl ?_
  intro E hl hRm hD hids hb ho hz hN C hname ret
  subst hl hD hids hb
  unfold fX11_together at h
  refine z_iload_n C (zd tX11_together 0 rfl) rfl ?_
  obtain ⟨v1, r2, cv1, h⟩ := zcl_some h
  refine zc_S C ho hz hRm (qX11_isWorker _ _ _ _ Rx1 hv cv1) (zgS zwd_633 zwd_634 zwd_1 zwd_635) rfl pX11_isWorker rfl ⟨rfl, rfl⟩ ⟨Nat.le_of_ble_eq_true rfl, Nat.le_of_ble_eq_true rfl⟩ [] rfl (Nat.le_of_ble_eq_true rfl) (zd tX11_together 1 rfl) [zi r2] rfl (fun p3 => ?_)
  refine z_if_eq (tgt := 19) C p3.2 (zd tX11_together 2 rfl) (by decide) h (fun h => ?_) (fun h => ?_)
  · refine z_iconst C (zd tX11_together 9 rfl) ?_
    obtain ⟨rfl, rfl⟩ := zpi h
    exact ret.1 _ _ _ _ ⟨p3.1, (zR_c (-1) rfl)⟩ rfl rfl rfl (zd tX11_together 10 rfl)
  · refine z_iload_n C (zd tX11_together 3 rfl) rfl ?_
    obtain ⟨v4, r5, cv4, h⟩ := zcl_some h
    refine zc_S C ho hz hRm (qX11_isWorker _ _ _ _ Rx2 p3.1 cv4) (zgS zwd_633 zwd_634 zwd_1 zwd_635) rfl pX11_isWorker rfl ⟨rfl, rfl⟩ ⟨Nat.le_of_ble_eq_true rfl, Nat.le_of_ble_eq_true rfl⟩ [] rfl (Nat.le_of_ble_eq_true rfl) (zd tX11_together 4 rfl) [zi r5] rfl (fun p6 => ?_)
    refine z_if_eq (tgt := 19) C p6.2 (zd tX11_together 5 rfl) (by decide) h (fun h => ?_) (fun h => ?_)
    · refine z_iconst C (zd tX11_together 9 rfl) ?_
      obtain ⟨rfl, rfl⟩ := zpi h
      exact ret.1 _ _ _ _ ⟨p6.1, (zR_c (-1) rfl)⟩ rfl rfl rfl (zd tX11_together 10 rfl)
    · refine z_iload_n C (zd tX11_together 6 rfl) rfl ?_
      refine z_iload_n C (zd tX11_together 7 rfl) rfl ?_
      refine z_icmp_ne (tgt := 21) C Rx1 Rx2 (zd tX11_together 8 rfl) (by decide) h (fun h => ?_) (fun h => ?_)
      · refine z_aload_n C (zd tX11_together 11 rfl) rfl ?_
        refine z_iload_n C (zd tX11_together 12 rfl) rfl ?_
        obtain ⟨v7, r8, cv7, h⟩ := zcl_some h
        refine zc_V C ho hz hRm (qX11_sheetOf _ _ _ _ Rx1 p6.1 cv7) (lg_0 ho) (by decide) rfl (zgV zwd_673 zwd_675 zws_12 zwd_1 zwd_676) rfl pX11_sheetOf rfl ⟨rfl, rfl⟩ ⟨Nat.le_of_ble_eq_true rfl, Nat.le_of_ble_eq_true rfl⟩ [] rfl (Nat.le_of_ble_eq_true rfl) (zd tX11_together 13 rfl) [zr (r8).toNat] rfl (fun p9 => ?_)
        obtain ⟨u10, eu10, h⟩ := zb_some h
        have gu10 := kg_8 ho (show zK u10 = _ by rw [eu10]; exact p9.2.2)
        refine z_r0 eu10.symm ?_
        refine gl_8_6 C gu10 zic_8 (zm zwd_269) (vl_8_6 ho p9.1 gu10) (zd tX11_together 14 rfl) ?_
        refine z_astore_n C (zd tX11_together 15 rfl) (by rw [hN]; decide) ?_
        refine z_aload_n C (zd tX11_together 16 rfl) rfl ?_
        refine z_iload_n C (zd tX11_together 17 rfl) rfl ?_
        obtain ⟨v11, r12, cv11, h⟩ := zcl_some h
        refine zc_V C ho hz hRm (qX11_sheetOf _ _ _ _ Rx2 p9.1 cv11) (lg_0 ho) (by decide) rfl (zgV zwd_673 zwd_675 zws_12 zwd_1 zwd_676) rfl pX11_sheetOf rfl ⟨rfl, rfl⟩ ⟨Nat.le_of_ble_eq_true rfl, Nat.le_of_ble_eq_true rfl⟩ [] rfl (Nat.le_of_ble_eq_true rfl) (zd tX11_together 18 rfl) [zr (r12).toNat] rfl (fun p13 => ?_)
        obtain ⟨u14, eu14, h⟩ := zb_some h
        have gu14 := kg_8 ho (show zK u14 = _ by rw [eu14]; exact p13.2.2)
        refine z_r0 eu14.symm ?_
        refine gl_8_6 C gu14 zic_8 (zm zwd_269) (vl_8_6 ho p13.1 gu14) (zd tX11_together 19 rfl) ?_
        refine z_astore C (zd tX11_together 20 rfl) (by rw [hN]; decide) ?_
        refine z_aload_n C (zd tX11_together 21 rfl) rfl ?_
        obtain ⟨u15, eu15, h⟩ := zb_some h
        obtain ⟨q16, h⟩ := zck_some h
        have gu15 := kg_7 ho q16.2
        refine gl_11_2 C (lg_0 ho) zic_11 (zm zwd_402) (zdyn q16.1 eu15) (zd tX11_together 22 rfl) ?_
        refine gl_7_0 C gu15 zic_7 (zm zwd_151) (vl_7_0 ho p13.1 gu15) (zd tX11_together 23 rfl) ?_
        refine z_bipush C (by decide) (zd tX11_together 24 rfl) ?_
        obtain ⟨v17, r18, cv17, h⟩ := zcl_some h
        refine zc_V C ho hz hRm (qX2_quartersAhead _ _ _ _ (lk_7_0 ho gu15).1 (zR_c 28 rfl) p13.1 cv17) (lk_7_0 ho gu15) (by decide) rfl (zgV zwd_826 zwd_694 zwd_695 zwd_5 zwd_696) rfl pX2_quartersAhead rfl ⟨rfl, rfl⟩ ⟨Nat.le_of_ble_eq_true rfl, Nat.le_of_ble_eq_true rfl⟩ [] rfl (Nat.le_of_ble_eq_true rfl) (zd tX11_together 25 rfl) [zi r18] rfl (fun p19 => ?_)
        refine z_istore C (zd tX11_together 26 rfl) (by rw [hN]; decide) ?_
        refine z_iconst C (zd tX11_together 27 rfl) ?_
        refine z_istore C (zd tX11_together 28 rfl) (by rw [hN]; decide) ?_
        refine z_iconst C (zd tX11_together 29 rfl) ?_
        refine z_istore C (zd tX11_together 30 rfl) (by rw [hN]; decide) ?_
        refine z_sub (lo' := [none, none, none, some (zr (u10 + 5)), some (zr (u14 + 5)), some (zi r18), some (zi 0), some (zi 0)]) (zsub_n (zsub_n (zsub_n (zsub_s (zsub_s (zsub_s (zsub_s (zsub_s zsub_0)))))))) ?_
        obtain ⟨v26, w27, lv26, h⟩ := zl_some h
        refine bX11_together_L60 C hN ho hz hRm zFU v17 (u10 + 5) (u14 + 5) r18 0 0 _ lv26 p19.1 (lk_8_6 ho gu10) (lk_8_6 ho gu14) p19.2 (zR_c 0 rfl) (zR_c 0 rfl) (fun w1 q1 e1 hv26 Rw27 => ?_)
        obtain ⟨rfl, rfl⟩ := zpp e1
        refine z_iload C (zd tX11_together 47 rfl) rfl ?_
        obtain ⟨rfl, rfl⟩ := zpi h
        exact ret.1 _ _ _ _ ⟨hv26, Rw27⟩ rfl rfl rfl (zd tX11_together 48 rfl)
      · refine z_iconst C (zd tX11_together 9 rfl) ?_
        obtain ⟨rfl, rfl⟩ := zpi h
        exact ret.1 _ _ _ _ ⟨p6.1, (zR_c (-1) rfl)⟩ rfl rfl rfl (zd tX11_together 10 rfl)
noncomputable def vsX11_total : List Cond := .code yX11_total cX11_total 3 (some .int) :: zbig
abbrev rmX11_total : Room := { frames := 7, cells := 0, slots := 0, locals := 186 }
theorem pX11_total : yX11_total.cls = RX11 ∧ yX11_total.cls ≠ "java/lang/invoke/MethodHandle" ∧ yX11_total.cls ≠ "java/lang/invoke/VarHandle" ∧ (parseMethodDescriptor yX11_total.desc).map (fun d => d.parameters.length) = some 0 := by decide +kernel
set_option maxRecDepth 100000 in
set_option maxHeartbeats 4000000 in
theorem bX11_total_L4 {E : zE} (C : zC E 137 cX11_total RX11 vsX11_total) (hN : zEN E = 3) (ho : zEo E = 0) (hz : zEz E = False) (hRm : zER E = rmX11_total) : ∀ (fu : Nat) (v : zHp) (x1 : Int) (x2 : Int) (res : (zHp × (Int))), fX11_total_L4 fu v x1 x2 = some res → zV 0 137 v → zR x1 → zR x2 → (∀ (w : zHp) (q : Int), res = (w, q) → zV 0 137 w → zR q → zX E 0 0 137 w 26 [none, some (zi q), none] []) → zX E 0 0 137 v 4 [some (zr 0), some (zi x1), some (zi x2)] [] := by
  intro fu
  induction fu with
  | zero =>
    intro v _ _ res h
    cases h
  | succ fu ih =>
    intro v x1 x2 res h hv Rx1 Rx2 K1
    rw [fX11_total_L4.eq_2] at h
    refine z_iload_n C (zd tX11_total 4 rfl) rfl ?_
    refine z_iconst C (zd tX11_total 5 rfl) ?_
    refine z_icmp_ge (tgt := 26) C Rx2 (zR_c 4 rfl) (zd tX11_total 6 rfl) (by decide) h (fun h => ?_) (fun h => ?_)
    · refine z_sub (lo' := [none, some (zi x1), none]) (zsub_n (zsub_s (zsub_n zsub_0))) ?_
      exact K1 _ _ (Option.some.inj h).symm hv Rx1
    · refine z_iload_n C (zd tX11_total 7 rfl) rfl ?_
      refine z_aload_n C (zd tX11_total 8 rfl) rfl ?_
      refine z_iload_n C (zd tX11_total 9 rfl) rfl ?_
      obtain ⟨v1, r2, cv1, h⟩ := zcl_some h
      refine zc_V C ho hz hRm (qX11_sheetOf _ _ _ _ Rx2 hv cv1) (lg_0 ho) (by decide) rfl (zgV zwd_673 zwd_675 zws_12 zwd_1 zwd_676) rfl pX11_sheetOf rfl ⟨rfl, rfl⟩ ⟨Nat.le_of_ble_eq_true rfl, Nat.le_of_ble_eq_true rfl⟩ [zi x1] rfl (Nat.le_of_ble_eq_true rfl) (zd tX11_total 10 rfl) [zr (r2).toNat, zi x1] rfl (fun p3 => ?_)
      obtain ⟨u4, eu4, h⟩ := zb_some h
      have gu4 := kg_8 ho (show zK u4 = _ by rw [eu4]; exact p3.2.2)
      refine z_r0 eu4.symm ?_
      obtain ⟨v5, r6, cv5, h⟩ := zcl_some h
      refine zc_V C ho hz hRm (qX8_allPay _ _ _ _ gu4.1 p3.1 cv5) gu4 (by decide) rfl (zgV zwd_856 zwd_857 zwd_858 zwd_8 zwd_859) rfl pX8_allPay rfl ⟨rfl, rfl⟩ ⟨Nat.le_of_ble_eq_true rfl, Nat.le_of_ble_eq_true rfl⟩ [zi x1] rfl (Nat.le_of_ble_eq_true rfl) (zd tX11_total 11 rfl) [zi r6, zi x1] rfl (fun p7 => ?_)
      refine z_iadd C (zd tX11_total 12 rfl) ?_
      obtain ⟨t8, et8, Rt8, h⟩ := zn_some h
      refine z_n0 (congrArg zI et8.symm) ?_
      refine z_istore_n C (zd tX11_total 13 rfl) (by rw [hN]; decide) ?_
      obtain ⟨t9, et9, Rt9, h⟩ := zn_some h
      refine z_iincE C (zd tX11_total 14 rfl) (by rw [hN]; decide) rfl et9 ?_
      refine z_goto (tgt := 4) C (zd tX11_total 15 rfl) (by decide) ?_
      refine z_sub (lo' := [some (zr 0), some (zi t8), some (zi t9)]) (zsub_s (zsub_s (zsub_s zsub_0))) ?_
      exact ih v5 t8 t9 _ h p7.1 Rt8 Rt9 K1
set_option maxRecDepth 100000 in
set_option maxHeartbeats 4000000 in
theorem qX11_total (l : Launch) (D : va_G) (ids : Nat → ClassId) (b : Nat)  {v v' : zHp} {r' : Int} (hv : zV 0 137 v) (h : fX11_total v = some (v', r')) : zCT l yX11_total vsX11_total rmX11_total D ids b 0 False 137 [zr 0] v 137 (zV 0 137 v' ∧ zR r') (some (zi r')) v' 0 0 := by
  refine zMet (own := RX11) (by decide +kernel) (show vsX11_total = _ from rfl) (Nat.le_of_ble_eq_true rfl) rfl ?_
  intro E hl hRm hD hids hb ho hz hN C hname ret
  subst hl hD hids hb
  unfold fX11_total at h
  refine z_iconst C (zd tX11_total 0 rfl) ?_
  refine z_istore_n C (zd tX11_total 1 rfl) (by rw [hN]; decide) ?_
  refine z_iconst C (zd tX11_total 2 rfl) ?_
  refine z_istore_n C (zd tX11_total 3 rfl) (by rw [hN]; decide) ?_
  refine z_sub (lo' := [some (zr 0), some (zi 0), some (zi 0)]) (zsub_s (zsub_s (zsub_s zsub_0))) ?_
  obtain ⟨v10, w11, lv10, h⟩ := zl_some h
  refine bX11_total_L4 C hN ho hz hRm zFU v 0 0 _ lv10 hv (zR_c 0 rfl) (zR_c 0 rfl) (fun w1 q1 e1 hv10 Rw11 => ?_)
  obtain ⟨rfl, rfl⟩ := zpp e1
  refine z_iload_n C (zd tX11_total 16 rfl) rfl ?_
  obtain ⟨rfl, rfl⟩ := zpi h
  exact ret.1 _ _ _ _ ⟨hv10, Rw11⟩ rfl rfl rfl (zd tX11_total 17 rfl)
