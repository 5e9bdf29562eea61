noncomputable def vsX8_clearQuarters : List Cond := .code yX8_clearQuarters cX8_clearQuarters 4 none :: zbig
abbrev rmX8_clearQuarters : Room := { frames := 0, cells := 0, slots := 0, locals := 0 }
theorem pX8_clearQuarters : yX8_clearQuarters.cls = RX8 ∧ yX8_clearQuarters.cls ≠ "java/lang/invoke/MethodHandle" ∧ yX8_clearQuarters.cls ≠ "java/lang/invoke/VarHandle" ∧ (parseMethodDescriptor yX8_clearQuarters.desc).map (fun d => d.parameters.length) = some 2 := by decide +kernel
set_option maxRecDepth 100000 in
set_option maxHeartbeats 4000000 in
theorem bX8_clearQuarters_L2 {E : zE} (C : zC E 137 cX8_clearQuarters RX8 vsX8_clearQuarters) (hN : zEN E = 4) (ho : zEo E = 0) (hz : zEz E = False) (hRm : zER E = rmX8_clearQuarters) : ∀ (fu : Nat) (v : zHp) (a0 : Nat) (x2 : Int) (x3 : Int) (res : (zHp × (Int))), fX8_clearQuarters_L2 fu v a0 x2 x3 = some res → zV 0 137 v → zG E 137 a0 8 14 → zR x2 → zR x3 → (∀ (w : zHp) (q : Int), res = (w, q) → zV 0 137 w → True → zX E 0 0 137 w 29 [none, none, none, none] []) → zX E 0 0 137 v 2 [some (zr a0), none, some (zi x2), some (zi x3)] [] := by
  intro fu
  induction fu with
  | zero =>
    intro v _ _ _ res h
    cases h
  | succ fu ih =>
    intro v a0 x2 x3 res h hv ga0 Rx2 Rx3 K1
    rw [fX8_clearQuarters_L2.eq_2] at h
    refine z_iload_n C (zd tX8_clearQuarters 2 rfl) rfl ?_
    refine z_iload_n C (zd tX8_clearQuarters 3 rfl) rfl ?_
    refine z_icmp_ge (tgt := 29) C Rx3 Rx2 (zd tX8_clearQuarters 4 rfl) (by decide) h (fun h => ?_) (fun h => ?_)
    · refine z_sub (lo' := [none, none, none, none]) (zsub_n (zsub_n (zsub_n (zsub_n zsub_0)))) ?_
      exact K1 _ _ (Option.some.inj h).symm hv trivial
    · refine z_aload_n C (zd tX8_clearQuarters 5 rfl) rfl ?_
      refine gl_8_6 C ga0 zic_8 (zm zwd_268) (vl_8_6 ho hv ga0) (zd tX8_clearQuarters 6 rfl) ?_
      refine z_iload_n C (zd tX8_clearQuarters 7 rfl) rfl ?_
      refine z_bipush C (by decide) (zd tX8_clearQuarters 8 rfl) ?_
      obtain ⟨q1, h⟩ := zck_some h
      obtain ⟨v2, ev2, h⟩ := zb_some h
      have hv2 : zV 0 137 v2 := by rw [ev2]; exact hv.st (zR_c (-2) rfl) (lk_8_6 ho ga0).1 (Or.inr rfl)
      refine za_iast C (lk_8_6 ho ga0) rfl (by decide) q1 ev2 (zd tX8_clearQuarters 9 rfl) ?_
      refine z_aload_n C (zd tX8_clearQuarters 10 rfl) rfl ?_
      refine gl_8_7 C ga0 zic_8 (zm zwd_270) (vl_8_7 ho hv2 ga0) (zd tX8_clearQuarters 11 rfl) ?_
      refine z_iload_n C (zd tX8_clearQuarters 12 rfl) rfl ?_
      refine z_bipush C (by decide) (zd tX8_clearQuarters 13 rfl) ?_
      obtain ⟨q3, h⟩ := zck_some h
      obtain ⟨v4, ev4, h⟩ := zb_some h
      have hv4 : zV 0 137 v4 := by rw [ev4]; exact hv2.st (zR_c (-2) rfl) (lk_8_7 ho ga0).1 (Or.inr rfl)
      refine za_iast C (lk_8_7 ho ga0) rfl (by decide) q3 ev4 (zd tX8_clearQuarters 14 rfl) ?_
      obtain ⟨t5, et5, Rt5, h⟩ := zn_some h
      refine z_iincE C (zd tX8_clearQuarters 15 rfl) (by rw [hN]; decide) rfl et5 ?_
      refine z_goto (tgt := 2) C (zd tX8_clearQuarters 16 rfl) (by decide) ?_
      refine z_sub (lo' := [some (zr a0), none, some (zi x2), some (zi t5)]) (zsub_s (zsub_n (zsub_s (zsub_s zsub_0)))) ?_
      exact ih v4 a0 x2 t5 _ h hv4 ga0 Rx2 Rt5 K1
set_option maxRecDepth 100000 in
set_option maxHeartbeats 4000000 in
theorem qX8_clearQuarters (l : Launch) (D : va_G) (ids : Nat → ClassId) (b : Nat) {a0 : Nat} (k0 : zK a0 = (8, 14)) {x1 : Int} (Rx1 : zR x1) {x2 : Int} (Rx2 : zR x2) {v v' : zHp} {r' : Int} (hv : zV 0 137 v) (h : fX8_clearQuarters v a0 x1 x2 = some (v', r')) : zCT l yX8_clearQuarters vsX8_clearQuarters rmX8_clearQuarters D ids b 0 False 137 [zr a0, zi x1, zi x2] v 137 (zV 0 137 v') none v' 0 0 := by
  refine zMet (own := RX8) (by decide +kernel) (show vsX8_clearQuarters = _ from rfl) (Nat.le_of_ble_eq_true rfl) rfl ?_
  intro E hl hRm hD hids hb ho hz hN C hname ret
  subst hl hD hids hb
  have ga0 := kg_8 ho k0
  unfold fX8_clearQuarters at h
  refine z_iload_n C (zd tX8_clearQuarters 0 rfl) rfl ?_
  refine z_istore_n C (zd tX8_clearQuarters 1 rfl) (by rw [hN]; decide) ?_
  refine z_sub (lo' := [some (zr a0), none, some (zi x2), some (zi x1)]) (zsub_s (zsub_n (zsub_s (zsub_s zsub_0)))) ?_
  obtain ⟨v6, w7, lv6, h⟩ := zl_some h
  refine bX8_clearQuarters_L2 C hN ho hz hRm zFU v a0 x2 x1 _ lv6 hv ga0 Rx2 Rx1 (fun w1 q1 e1 hv6 Rw7 => ?_)
  obtain ⟨rfl, rfl⟩ := zpp e1
  obtain ⟨rfl, rfl⟩ := zpi h
  exact ret.2.1 _ _ hv6 rfl rfl (zd tX8_clearQuarters 17 rfl)
noncomputable def vsX7_rounded : List Cond := .code yX7_rounded cX7_rounded 3 (some .int) :: zbig
abbrev rmX7_rounded : Room := { frames := 0, cells := 0, slots := 0, locals := 0 }
theorem pX7_rounded : yX7_rounded.cls = RX7 ∧ yX7_rounded.cls ≠ "java/lang/invoke/MethodHandle" ∧ yX7_rounded.cls ≠ "java/lang/invoke/VarHandle" ∧ (parseMethodDescriptor yX7_rounded.desc).map (fun d => d.parameters.length) = some 1 := by decide +kernel
set_option maxRecDepth 100000 in
set_option maxHeartbeats 4000000 in
theorem qX7_rounded (l : Launch) (D : va_G) (ids : Nat → ClassId) (b : Nat) {a0 : Nat} (k0 : zK a0 = (7, 10)) {x1 : Int} (Rx1 : zR x1) {v v' : zHp} {r' : Int} (hv : zV 0 137 v) (h : fX7_rounded v a0 x1 = some (v', r')) : zCT l yX7_rounded vsX7_rounded rmX7_rounded D ids b 0 False 137 [zr a0, zi x1] v 137 (zV 0 137 v' ∧ zR r') (some (zi r')) v' 0 0 := by
  refine zMet (own := RX7) (by decide +kernel) (show vsX7_rounded = _ from rfl) (Nat.le_of_ble_eq_true rfl) rfl ?_
  intro E hl hRm hD hids hb ho hz hN C hname ret
  subst hl hD hids hb
  have ga0 := kg_7 ho k0
  unfold fX7_rounded at h
  refine z_iload_n C (zd tX7_rounded 0 rfl) rfl ?_
  refine z_bipush C (by decide) (zd tX7_rounded 1 rfl) ?_
  refine z_idiv C Rx1 (by decide) (zR_c 15 rfl) (zd tX7_rounded 2 rfl) ?_
  refine z_istore_n C (zd tX7_rounded 3 rfl) (by rw [hN]; decide) ?_
  refine z_iload_n C (zd tX7_rounded 4 rfl) rfl ?_
  refine z_bipush C (by decide) (zd tX7_rounded 5 rfl) ?_
  refine z_irem C Rx1 (by decide) (zR_c 15 rfl) (zd tX7_rounded 6 rfl) ?_
  refine z_aload_n C (zd tX7_rounded 7 rfl) rfl ?_
  refine gf_7_5 C ga0 zic_7 (zm zwd_166) (zd tX7_rounded 8 rfl) ?_
  refine z_icmp_gt (tgt := 20) C (zR_mod (by decide) (zR_c 15 rfl)) (hv.1 _ _) (zd tX7_rounded 9 rfl) (by decide) h (fun h => ?_) (fun h => ?_)
  · refine z_iload_n C (zd tX7_rounded 12 rfl) rfl ?_
    refine z_iconst C (zd tX7_rounded 13 rfl) ?_
    refine z_iadd C (zd tX7_rounded 14 rfl) ?_
    obtain ⟨t1, et1, Rt1, h⟩ := zn_some h
    refine z_n0 (congrArg zI et1.symm) ?_
    obtain ⟨rfl, rfl⟩ := zpi h
    exact ret.1 _ _ _ _ ⟨hv, Rt1⟩ rfl rfl rfl (zd tX7_rounded 15 rfl)
  · refine z_iload_n C (zd tX7_rounded 10 rfl) rfl ?_
    refine z_goto (tgt := 23) C (zd tX7_rounded 11 rfl) (by decide) ?_
    obtain ⟨rfl, rfl⟩ := zpi h
    exact ret.1 _ _ _ _ ⟨hv, (zR_div Rx1 (by decide))⟩ rfl rfl rfl (zd tX7_rounded 15 rfl)
noncomputable def vsX4_put : List Cond := .code yX4_put cX4_put 3 (some .int) :: zbig
abbrev rmX4_put : Room := { frames := 0, cells := 0, slots := 0, locals := 0 }
theorem pX4_put : yX4_put.cls = RX4 ∧ yX4_put.cls ≠ "java/lang/invoke/MethodHandle" ∧ yX4_put.cls ≠ "java/lang/invoke/VarHandle" ∧ (parseMethodDescriptor yX4_put.desc).map (fun d => d.parameters.length) = some 2 := by decide +kernel
set_option maxRecDepth 100000 in
set_option maxHeartbeats 4000000 in
theorem qX4_put (l : Launch) (D : va_G) (ids : Nat → ClassId) (b : Nat) {a0 : Nat} (k0 : zK a0 = (4, 3)) {x1 : Int} (Rx1 : zR x1) {x2 : Int} (Rx2 : zR x2) {v v' : zHp} {r' : Int} (hv : zV 0 137 v) (h : fX4_put v a0 x1 x2 = some (v', r')) : zCT l yX4_put vsX4_put rmX4_put D ids b 0 False 137 [zr a0, zi x1, zi x2] v 137 (zV 0 137 v' ∧ zR r') (some (zi r')) v' 0 0 := by
  refine zMet (own := RX4) (by decide +kernel) (show vsX4_put = _ from rfl) (Nat.le_of_ble_eq_true rfl) rfl ?_
  intro E hl hRm hD hids hb ho hz hN C hname ret
  subst hl hD hids hb
  have ga0 := kg_4 ho k0
  unfold fX4_put at h
  refine z_iload_n C (zd tX4_put 0 rfl) rfl ?_
  refine z_iload_n C (zd tX4_put 1 rfl) rfl ?_
  refine z_icmp_ge (tgt := 17) C Rx1 Rx2 (zd tX4_put 2 rfl) (by decide) h (fun h => ?_) (fun h => ?_)
  · refine z_iconst C (zd tX4_put 9 rfl) ?_
    obtain ⟨rfl, rfl⟩ := zpi h
    exact ret.1 _ _ _ _ ⟨hv, (zR_c 0 rfl)⟩ rfl rfl rfl (zd tX4_put 10 rfl)
  · refine z_aload_n C (zd tX4_put 3 rfl) rfl ?_
    refine gf_4_2 C ga0 zic_4 (zm zwd_246) (zd tX4_put 4 rfl) ?_
    refine z_aload_n C (zd tX4_put 5 rfl) rfl ?_
    refine gl_4_0 C ga0 zic_4 (zm zwd_242) (vl_4_0 ho hv ga0) (zd tX4_put 6 rfl) ?_
    refine z_alen C (lk_4_0 ho ga0) (zd tX4_put 7 rfl) ?_
    refine z_icmp_lt (tgt := 19) C (hv.1 _ _) (zR_c 60 rfl) (zd tX4_put 8 rfl) (by decide) h (fun h => ?_) (fun h => ?_)
    · refine z_aload_n C (zd tX4_put 11 rfl) rfl ?_
      refine gl_4_0 C ga0 zic_4 (zm zwd_242) (vl_4_0 ho hv ga0) (zd tX4_put 12 rfl) ?_
      refine z_aload_n C (zd tX4_put 13 rfl) rfl ?_
      refine gf_4_2 C ga0 zic_4 (zm zwd_246) (zd tX4_put 14 rfl) ?_
      refine z_iload_n C (zd tX4_put 15 rfl) rfl ?_
      obtain ⟨q1, h⟩ := zck_some h
      obtain ⟨v2, ev2, h⟩ := zb_some h
      have hv2 : zV 0 137 v2 := by rw [ev2]; exact hv.st Rx1 (lk_4_0 ho ga0).1 (Or.inr rfl)
      refine za_iast C (lk_4_0 ho ga0) rfl (by decide) q1 ev2 (zd tX4_put 16 rfl) ?_
      refine z_aload_n C (zd tX4_put 17 rfl) rfl ?_
      refine gl_4_1 C ga0 zic_4 (zm zwd_244) (vl_4_1 ho hv2 ga0) (zd tX4_put 18 rfl) ?_
      refine z_aload_n C (zd tX4_put 19 rfl) rfl ?_
      refine gf_4_2 C ga0 zic_4 (zm zwd_246) (zd tX4_put 20 rfl) ?_
      refine z_iload_n C (zd tX4_put 21 rfl) rfl ?_
      obtain ⟨q3, h⟩ := zck_some h
      obtain ⟨v4, ev4, h⟩ := zb_some h
      have hv4 : zV 0 137 v4 := by rw [ev4]; exact hv2.st Rx2 (lk_4_1 ho ga0).1 (Or.inr rfl)
      refine za_iast C (lk_4_1 ho ga0) rfl (by decide) q3 ev4 (zd tX4_put 22 rfl) ?_
      refine z_aload_n C (zd tX4_put 23 rfl) rfl ?_
      refine z_dup C (zd tX4_put 24 rfl) ?_
      refine gf_4_2 C ga0 zic_4 (zm zwd_246) (zd tX4_put 25 rfl) ?_
      refine z_iconst C (zd tX4_put 26 rfl) ?_
      refine z_iadd C (zd tX4_put 27 rfl) ?_
      obtain ⟨t5, et5, Rt5, h⟩ := zn_some h
      refine z_n0 (congrArg zI et5.symm) ?_
      obtain ⟨v6, ev6, h⟩ := zb_some h
      have hv6 : zV 0 137 v6 := by rw [ev6]; exact hv4.st Rt5 ga0.1 (Or.inr rfl)
      refine pf_4_2 C ga0 zic_4 (zm zwd_246) ev6 (zd tX4_put 28 rfl) ?_
      refine z_iload_n C (zd tX4_put 29 rfl) rfl ?_
      refine z_iload_n C (zd tX4_put 30 rfl) rfl ?_
      refine z_isub C (zd tX4_put 31 rfl) ?_
      obtain ⟨t7, et7, Rt7, h⟩ := zn_some h
      refine z_n0 (congrArg zI et7.symm) ?_
      obtain ⟨rfl, rfl⟩ := zpi h
      exact ret.1 _ _ _ _ ⟨hv6, Rt7⟩ rfl rfl rfl (zd tX4_put 32 rfl)
    · refine z_iconst C (zd tX4_put 9 rfl) ?_
      obtain ⟨rfl, rfl⟩ := zpi h
      exact ret.1 _ _ _ _ ⟨hv, (zR_c 0 rfl)⟩ rfl rfl rfl (zd tX4_put 10 rfl)
noncomputable def vsX8_addSpan : List Cond := .code yX8_addSpan cX8_addSpan 7 none :: zbig
abbrev rmX8_addSpan : Room := { frames := 2, cells := 0, slots := 0, locals := 42 }
theorem pX8_addSpan : yX8_addSpan.cls = RX8 ∧ yX8_addSpan.cls ≠ "java/lang/invoke/MethodHandle" ∧ yX8_addSpan.cls ≠ "java/lang/invoke/VarHandle" ∧ (parseMethodDescriptor yX8_addSpan.desc).map (fun d => d.parameters.length) = some 3 := by decide +kernel
set_option maxRecDepth 100000 in
set_option maxHeartbeats 4000000 in
theorem jX8_addSpan_J106 {E : zE} (C : zC E 137 cX8_addSpan RX8 vsX8_addSpan) (hN : zEN E = 7) (ho : zEo E = 0) (hz : zEz E = False) (hRm : zER E = rmX8_addSpan) {v' : zHp} {r' : Int} (ret : zRet E cX8_addSpan 0 0 137 none (zV 0 137 v') none v') (v : zHp) (a0 : Nat) (x1 : Int) (x2 : Int) (x5 : Int) (h : fX8_addSpan_J106 v a0 x1 x2 x5 = some (v', r')) (hv : zV 0 137 v) (ga0 : zG E 137 a0 8 14) (Rx1 : zR x1) (Rx2 : zR x2) (Rx5 : zR x5) : zX E 0 0 137 v 106 [some (zr a0), some (zi x1), some (zi x2), none, none, some (zi x5), none] [] := by
  unfold fX8_addSpan_J106 at h
  refine z_aload_n C (zd tX8_addSpan 54 rfl) rfl ?_
  refine gl_8_2 C ga0 zic_8 (zm zwd_260) (vl_8_2 ho hv ga0) (zd tX8_addSpan 55 rfl) ?_
  refine z_aload_n C (zd tX8_addSpan 56 rfl) rfl ?_
  refine gf_8_5 C ga0 zic_8 (zm zwd_266) (zd tX8_addSpan 57 rfl) ?_
  refine z_iload_n C (zd tX8_addSpan 58 rfl) rfl ?_
  obtain ⟨q9, h⟩ := zck_some h
  obtain ⟨v10, ev10, h⟩ := zb_some h
  have hv10 : zV 0 137 v10 := by rw [ev10]; exact hv.st Rx1 (lk_8_2 ho ga0).1 (Or.inr rfl)
  refine za_iast C (lk_8_2 ho ga0) rfl (by decide) q9 ev10 (zd tX8_addSpan 59 rfl) ?_
  refine z_aload_n C (zd tX8_addSpan 60 rfl) rfl ?_
  refine gl_8_3 C ga0 zic_8 (zm zwd_262) (vl_8_3 ho hv10 ga0) (zd tX8_addSpan 61 rfl) ?_
  refine z_aload_n C (zd tX8_addSpan 62 rfl) rfl ?_
  refine gf_8_5 C ga0 zic_8 (zm zwd_266) (zd tX8_addSpan 63 rfl) ?_
  refine z_iload_n C (zd tX8_addSpan 64 rfl) rfl ?_
  obtain ⟨q11, h⟩ := zck_some h
  obtain ⟨v12, ev12, h⟩ := zb_some h
  have hv12 : zV 0 137 v12 := by rw [ev12]; exact hv10.st Rx2 (lk_8_3 ho ga0).1 (Or.inr rfl)
  refine za_iast C (lk_8_3 ho ga0) rfl (by decide) q11 ev12 (zd tX8_addSpan 65 rfl) ?_
  refine z_aload_n C (zd tX8_addSpan 66 rfl) rfl ?_
  refine gl_8_4 C ga0 zic_8 (zm zwd_264) (vl_8_4 ho hv12 ga0) (zd tX8_addSpan 67 rfl) ?_
  refine z_aload_n C (zd tX8_addSpan 68 rfl) rfl ?_
  refine gf_8_5 C ga0 zic_8 (zm zwd_266) (zd tX8_addSpan 69 rfl) ?_
  refine z_iload C (zd tX8_addSpan 70 rfl) rfl ?_
  obtain ⟨q13, h⟩ := zck_some h
  obtain ⟨v14, ev14, h⟩ := zb_some h
  have hv14 : zV 0 137 v14 := by rw [ev14]; exact hv12.st Rx5 (lk_8_4 ho ga0).1 (Or.inr rfl)
  refine za_iast C (lk_8_4 ho ga0) rfl (by decide) q13 ev14 (zd tX8_addSpan 71 rfl) ?_
  refine z_aload_n C (zd tX8_addSpan 72 rfl) rfl ?_
  refine z_dup C (zd tX8_addSpan 73 rfl) ?_
  refine gf_8_5 C ga0 zic_8 (zm zwd_266) (zd tX8_addSpan 74 rfl) ?_
  refine z_iconst C (zd tX8_addSpan 75 rfl) ?_
  refine z_iadd C (zd tX8_addSpan 76 rfl) ?_
  obtain ⟨t15, et15, Rt15, h⟩ := zn_some h
  refine z_n0 (congrArg zI et15.symm) ?_
  obtain ⟨v16, ev16, h⟩ := zb_some h
  have hv16 : zV 0 137 v16 := by rw [ev16]; exact hv14.st Rt15 ga0.1 (Or.inr rfl)
  refine pf_8_5 C ga0 zic_8 (zm zwd_266) ev16 (zd tX8_addSpan 77 rfl) ?_
  obtain ⟨rfl, rfl⟩ := zpi h
  exact ret.2.1 _ _ hv16 rfl rfl (zd tX8_addSpan 78 rfl)
set_option maxRecDepth 100000 in
set_option maxHeartbeats 4000000 in
theorem jX8_addSpan_J94 {E : zE} (C : zC E 137 cX8_addSpan RX8 vsX8_addSpan) (hN : zEN E = 7) (ho : zEo E = 0) (hz : zEz E = False) (hRm : zER E = rmX8_addSpan) {v' : zHp} {r' : Int} (ret : zRet E cX8_addSpan 0 0 137 none (zV 0 137 v') none v') (v : zHp) (a0 : Nat) (x1 : Int) (x2 : Int) (x4 : Int) (h : fX8_addSpan_J94 v a0 x1 x2 x4 = some (v', r')) (hv : zV 0 137 v) (ga0 : zG E 137 a0 8 14) (Rx1 : zR x1) (Rx2 : zR x2) (Rx4 : zR x4) : zX E 0 0 137 v 94 [some (zr a0), some (zi x1), some (zi x2), none, some (zi x4), none, none] [] := by
  unfold fX8_addSpan_J94 at h
  refine z_aload_n C (zd tX8_addSpan 48 rfl) rfl ?_
  obtain ⟨u4, eu4, h⟩ := zb_some h
  obtain ⟨q5, h⟩ := zck_some h
  have gu4 := kg_4 ho q5.2
  refine gl_8_9 C ga0 zic_8 (zm zwd_274) (zdyn q5.1 eu4) (zd tX8_addSpan 49 rfl) ?_
  refine z_iload_n C (zd tX8_addSpan 50 rfl) rfl ?_
  refine z_iload C (zd tX8_addSpan 51 rfl) rfl ?_
  obtain ⟨v6, r7, cv6, h⟩ := zcl_some h
  refine zc_V C ho hz hRm (qX4_put _ _ _ _ gu4.1 Rx1 Rx4 hv cv6) gu4 (by decide) rfl (zgV zwd_699 zwd_700 zwd_701 zwd_9 zwd_702) rfl pX4_put rfl ⟨rfl, rfl⟩ ⟨Nat.le_of_ble_eq_true rfl, Nat.le_of_ble_eq_true rfl⟩ [] rfl (Nat.le_of_ble_eq_true rfl) (zd tX8_addSpan 52 rfl) [zi r7] rfl (fun p8 => ?_)
  refine z_istore C (zd tX8_addSpan 53 rfl) (by rw [hN]; decide) ?_
  refine z_sub (lo' := [some (zr a0), some (zi x1), some (zi x2), none, none, some (zi r7), none]) (zsub_s (zsub_s (zsub_s (zsub_n (zsub_n (zsub_s (zsub_n zsub_0))))))) ?_
  exact jX8_addSpan_J106 C hN ho hz hRm ret v6 a0 x1 x2 r7 h p8.1 ga0 Rx1 Rx2 p8.2
set_option maxRecDepth 100000 in
set_option maxHeartbeats 4000000 in
theorem qX8_addSpan (l : Launch) (D : va_G) (ids : Nat → ClassId) (b : Nat) {a0 : Nat} (k0 : zK a0 = (8, 14)) {x1 : Int} (Rx1 : zR x1) {x2 : Int} (Rx2 : zR x2) {a3 : Nat} (k3 : zK a3 = (7, 10)) {v v' : zHp} {r' : Int} (hv : zV 0 137 v) (h : fX8_addSpan v a0 x1 x2 a3 = some (v', r')) : zCT l yX8_addSpan vsX8_addSpan rmX8_addSpan D ids b 0 False 137 [zr a0, zi x1, zi x2, zr a3] v 137 (zV 0 137 v') none v' 0 0 := by
  refine zMet (own := RX8) (by decide +kernel) (show vsX8_addSpan = _ from rfl) (Nat.le_of_ble_eq_true rfl) rfl ?_
  intro E hl hRm hD hids hb ho hz hN C hname ret
  subst hl hD hids hb
  have ga0 := kg_8 ho k0
  have ga3 := kg_7 ho k3
  unfold fX8_addSpan at h
  refine z_aload_n C (zd tX8_addSpan 0 rfl) rfl ?_
  refine gf_8_5 C ga0 zic_8 (zm zwd_266) (zd tX8_addSpan 1 rfl) ?_
  refine z_aload_n C (zd tX8_addSpan 2 rfl) rfl ?_
  refine gl_8_2 C ga0 zic_8 (zm zwd_260) (vl_8_2 ho hv ga0) (zd tX8_addSpan 3 rfl) ?_
  refine z_alen C (lk_8_2 ho ga0) (zd tX8_addSpan 4 rfl) ?_
  refine z_icmp_lt (tgt := 13) C (hv.1 _ _) (zR_c 30 rfl) (zd tX8_addSpan 5 rfl) (by decide) h (fun h => ?_) (fun h => ?_)
  · refine z_iload_n C (zd tX8_addSpan 7 rfl) rfl ?_
    refine z_aload_n C (zd tX8_addSpan 8 rfl) rfl ?_
    refine gl_7_0 C ga3 zic_7 (zm zwd_150) (vl_7_0 ho hv ga3) (zd tX8_addSpan 9 rfl) ?_
    refine z_bipush C (by decide) (zd tX8_addSpan 10 rfl) ?_
    obtain ⟨v1, r2, cv1, h⟩ := zcl_some h
    refine zc_V C ho hz hRm (qX2_quartersAhead _ _ _ _ (lk_7_0 ho ga3).1 (zR_c 28 rfl) hv cv1) (lk_7_0 ho ga3) (by decide) rfl (zgV zwd_693 zwd_694 zwd_695 zwd_5 zwd_696) rfl pX2_quartersAhead rfl ⟨rfl, rfl⟩ ⟨Nat.le_of_ble_eq_true rfl, Nat.le_of_ble_eq_true rfl⟩ [zi x2] rfl (Nat.le_of_ble_eq_true rfl) (zd tX8_addSpan 11 rfl) [zi r2, zi x2] rfl (fun p3 => ?_)
    refine z_min C hRm Rx2 p3.2 ⟨(zm zwd_698), (zm zwd_457), (zm zwd_14), (zm zwd_458)⟩ ⟨Nat.le_of_ble_eq_true rfl, Nat.le_of_ble_eq_true rfl, Nat.zero_le _, Nat.zero_le _⟩ (zd tX8_addSpan 12 rfl) ?_
    refine z_istore C (zd tX8_addSpan 13 rfl) (by rw [hN]; decide) ?_
    refine z_aload_n C (zd tX8_addSpan 14 rfl) rfl ?_
    refine gf_7_6 C ga3 zic_7 (zm zwd_172) (zd tX8_addSpan 15 rfl) ?_
    refine z_if_le (tgt := 94) C (p3.1.1 _ _) (zd tX8_addSpan 16 rfl) (by decide) h (fun h => ?_) (fun h => ?_)
    · refine z_sub (lo' := [some (zr a0), some (zi x1), some (zi x2), none, some (zi (min x2 r2)), none, none]) (zsub_s (zsub_s (zsub_s (zsub_n (zsub_s (zsub_n (zsub_n zsub_0))))))) ?_
      exact jX8_addSpan_J94 C hN ho hz hRm ret v1 a0 x1 x2 (min x2 r2) h p3.1 ga0 Rx1 Rx2 (zR_min Rx2 p3.2)
    · refine z_iload_n C (zd tX8_addSpan 17 rfl) rfl ?_
      refine z_iload_n C (zd tX8_addSpan 18 rfl) rfl ?_
      refine z_isub C (zd tX8_addSpan 19 rfl) ?_
      refine z_aload_n C (zd tX8_addSpan 20 rfl) rfl ?_
      refine gf_7_6 C ga3 zic_7 (zm zwd_172) (zd tX8_addSpan 21 rfl) ?_
      obtain ⟨t17, et17, Rt17, h⟩ := zn_some h
      refine z_n1 (congrArg zI et17.symm) ?_
      refine z_icmp_le (tgt := 94) C Rt17 (p3.1.1 _ _) (zd tX8_addSpan 22 rfl) (by decide) h (fun h => ?_) (fun h => ?_)
      · refine z_sub (lo' := [some (zr a0), some (zi x1), some (zi x2), none, some (zi (min x2 r2)), none, none]) (zsub_s (zsub_s (zsub_s (zsub_n (zsub_s (zsub_n (zsub_n zsub_0))))))) ?_
        exact jX8_addSpan_J94 C hN ho hz hRm ret v1 a0 x1 x2 (min x2 r2) h p3.1 ga0 Rx1 Rx2 (zR_min Rx2 p3.2)
      · refine z_iload_n C (zd tX8_addSpan 23 rfl) rfl ?_
        refine z_aload_n C (zd tX8_addSpan 24 rfl) rfl ?_
        refine gf_7_6 C ga3 zic_7 (zm zwd_172) (zd tX8_addSpan 25 rfl) ?_
        refine z_iadd C (zd tX8_addSpan 26 rfl) ?_
        obtain ⟨t18, et18, Rt18, h⟩ := zn_some h
        refine z_n0 (congrArg zI et18.symm) ?_
        refine z_istore C (zd tX8_addSpan 27 rfl) (by rw [hN]; decide) ?_
        refine z_aload_n C (zd tX8_addSpan 28 rfl) rfl ?_
        obtain ⟨u19, eu19, h⟩ := zb_some h
        obtain ⟨q20, h⟩ := zck_some h
        have gu19 := kg_4 ho q20.2
        refine gl_8_9 C ga0 zic_8 (zm zwd_274) (zdyn q20.1 eu19) (zd tX8_addSpan 29 rfl) ?_
        refine z_iload_n C (zd tX8_addSpan 30 rfl) rfl ?_
        refine z_iload C (zd tX8_addSpan 31 rfl) rfl ?_
        refine z_iload C (zd tX8_addSpan 32 rfl) rfl ?_
        refine z_min C hRm Rt18 (zR_min Rx2 p3.2) ⟨(zm zwd_698), (zm zwd_457), (zm zwd_14), (zm zwd_458)⟩ ⟨Nat.le_of_ble_eq_true rfl, Nat.le_of_ble_eq_true rfl, Nat.zero_le _, Nat.zero_le _⟩ (zd tX8_addSpan 33 rfl) ?_
        obtain ⟨v21, r22, cv21, h⟩ := zcl_some h
        refine zc_V C ho hz hRm (qX4_put _ _ _ _ gu19.1 Rx1 (zR_min Rt18 (zR_min Rx2 p3.2)) p3.1 cv21) gu19 (by decide) rfl (zgV zwd_699 zwd_700 zwd_701 zwd_9 zwd_702) rfl pX4_put rfl ⟨rfl, rfl⟩ ⟨Nat.le_of_ble_eq_true rfl, Nat.le_of_ble_eq_true rfl⟩ [] rfl (Nat.le_of_ble_eq_true rfl) (zd tX8_addSpan 34 rfl) [zi r22] rfl (fun p23 => ?_)
        refine z_istore C (zd tX8_addSpan 35 rfl) (by rw [hN]; decide) ?_
        refine z_iload C (zd tX8_addSpan 36 rfl) rfl ?_
        refine z_aload_n C (zd tX8_addSpan 37 rfl) rfl ?_
        obtain ⟨u24, eu24, h⟩ := zb_some h
        obtain ⟨q25, h⟩ := zck_some h
        have gu24 := kg_4 ho q25.2
        refine gl_8_9 C ga0 zic_8 (zm zwd_274) (zdyn q25.1 eu24) (zd tX8_addSpan 38 rfl) ?_
        refine z_iload C (zd tX8_addSpan 39 rfl) rfl ?_
        refine z_aload_n C (zd tX8_addSpan 40 rfl) rfl ?_
        refine gf_7_7 C ga3 zic_7 (zm zwd_176) (zd tX8_addSpan 41 rfl) ?_
        refine z_iadd C (zd tX8_addSpan 42 rfl) ?_
        refine z_iload C (zd tX8_addSpan 43 rfl) rfl ?_
        obtain ⟨t26, et26, Rt26, h⟩ := zn_some h
        refine z_nk 1 (congrArg zI et26.symm) rfl ?_
        obtain ⟨v27, r28, cv27, h⟩ := zcl_some h
        refine zc_V C ho hz hRm (qX4_put _ _ _ _ gu24.1 Rt26 (zR_min Rx2 p3.2) p23.1 cv27) gu24 (by decide) rfl (zgV zwd_699 zwd_700 zwd_701 zwd_9 zwd_702) rfl pX4_put rfl ⟨rfl, rfl⟩ ⟨Nat.le_of_ble_eq_true rfl, Nat.le_of_ble_eq_true rfl⟩ [zi r22] rfl (Nat.le_of_ble_eq_true rfl) (zd tX8_addSpan 44 rfl) [zi r28, zi r22] rfl (fun p29 => ?_)
        refine z_iadd C (zd tX8_addSpan 45 rfl) ?_
        obtain ⟨t30, et30, Rt30, h⟩ := zn_some h
        refine z_n0 (congrArg zI et30.symm) ?_
        refine z_istore C (zd tX8_addSpan 46 rfl) (by rw [hN]; decide) ?_
        refine z_goto (tgt := 106) C (zd tX8_addSpan 47 rfl) (by decide) ?_
        refine z_sub (lo' := [some (zr a0), some (zi x1), some (zi x2), none, none, some (zi t30), none]) (zsub_s (zsub_s (zsub_s (zsub_n (zsub_n (zsub_s (zsub_n zsub_0))))))) ?_
        exact jX8_addSpan_J106 C hN ho hz hRm ret v27 a0 x1 x2 t30 h p29.1 ga0 Rx1 Rx2 Rt30
  · obtain ⟨rfl, rfl⟩ := zpi h
    exact ret.2.1 _ _ hv rfl rfl (zd tX8_addSpan 6 rfl)
noncomputable def vsX8_pairUp : List Cond := .code yX8_pairUp cX8_pairUp 6 none :: zbig
abbrev rmX8_pairUp : Room := { frames := 3, cells := 0, slots := 0, locals := 68 }
theorem pX8_pairUp : yX8_pairUp.cls = RX8 ∧ yX8_pairUp.cls ≠ "java/lang/invoke/MethodHandle" ∧ yX8_pairUp.cls ≠ "java/lang/invoke/VarHandle" ∧ (parseMethodDescriptor yX8_pairUp.desc).map (fun d => d.parameters.length) = some 2 := by decide +kernel
set_option maxRecDepth 100000 in
set_option maxHeartbeats 4000000 in
theorem jX8_pairUp_J46 {E : zE} (C : zC E 137 cX8_pairUp RX8 vsX8_pairUp) (hN : zEN E = 6) (ho : zEo E = 0) (hz : zEz E = False) (hRm : zER E = rmX8_pairUp) (rc : zHp → Nat → Nat → Nat → Int → Int → Option (zHp × (Int))) (res : (zHp × (Int))) (v : zHp) (a0 : Nat) (a1 : Nat) (a2 : Nat) (x4 : Int) (x5 : Int) (K1 : ∀ (w : zHp) (q : Int), res = (w, q) → zV 0 137 w → True → zX E 0 0 137 w 151 [none, none, none, none, none, none] []) (hrc0 : True) (h : fX8_pairUp_J46 rc v a0 a1 a2 x4 x5 = some res) (hv : zV 0 137 v) (ga0 : zG E 137 a0 8 14) (ga1 : zG E 137 a1 1 3) (ga2 : zG E 137 a2 7 10) (Rx4 : zR x4) (Rx5 : zR x5) (hrc : ∀ (v : zHp) (z3 : Int) (z4 : Int), rc v a0 a1 a2 z3 z4 = some res → zV 0 137 v → zR z3 → zR z4 → zX E 0 0 137 v 10 [some (zr a0), some (zr a1), some (zr a2), some (zi z3), some (zi z4), none] []): zX E 0 0 137 v 46 [some (zr a0), some (zr a1), some (zr a2), none, some (zi x4), some (zi x5)] [] := by
  unfold fX8_pairUp_J46 at h
  refine z_iload C (zd tX8_pairUp 26 rfl) rfl ?_
  refine z_iconst C (zd tX8_pairUp 27 rfl) ?_
  refine z_icmp_ne (tgt := 56) C Rx5 (zR_c 1 rfl) (zd tX8_pairUp 28 rfl) (by decide) h (fun h => ?_) (fun h => ?_)
  · refine z_iload C (zd tX8_pairUp 31 rfl) rfl ?_
    refine z_istore_n C (zd tX8_pairUp 32 rfl) (by rw [hN]; decide) ?_
    refine z_goto (tgt := 145) C (zd tX8_pairUp 33 rfl) (by decide) ?_
    obtain ⟨t5, et5, Rt5, h⟩ := zn_some h
    refine z_iincE C (zd tX8_pairUp 83 rfl) (by rw [hN]; decide) rfl et5 ?_
    refine z_goto (tgt := 10) C (zd tX8_pairUp 84 rfl) (by decide) ?_
    refine z_sub (lo' := [some (zr a0), some (zr a1), some (zr a2), some (zi x4), some (zi t5), none]) (zsub_s (zsub_s (zsub_s (zsub_s (zsub_s (zsub_n zsub_0)))))) ?_
    exact hrc v x4 t5 h hv Rx4 Rt5
  · refine z_iconst C (zd tX8_pairUp 29 rfl) ?_
    refine z_goto (tgt := 58) C (zd tX8_pairUp 30 rfl) (by decide) ?_
    refine z_istore_n C (zd tX8_pairUp 32 rfl) (by rw [hN]; decide) ?_
    refine z_goto (tgt := 145) C (zd tX8_pairUp 33 rfl) (by decide) ?_
    obtain ⟨t6, et6, Rt6, h⟩ := zn_some h
    refine z_iincE C (zd tX8_pairUp 83 rfl) (by rw [hN]; decide) rfl et6 ?_
    refine z_goto (tgt := 10) C (zd tX8_pairUp 84 rfl) (by decide) ?_
    refine z_sub (lo' := [some (zr a0), some (zr a1), some (zr a2), some (zi (-1)), some (zi t6), none]) (zsub_s (zsub_s (zsub_s (zsub_s (zsub_s (zsub_n zsub_0)))))) ?_
    exact hrc v (-1) t6 h hv (zR_c (-1) rfl) Rt6
set_option maxRecDepth 100000 in
set_option maxHeartbeats 4000000 in
theorem bX8_pairUp_L10 {E : zE} (C : zC E 137 cX8_pairUp RX8 vsX8_pairUp) (hN : zEN E = 6) (ho : zEo E = 0) (hz : zEz E = False) (hRm : zER E = rmX8_pairUp) : ∀ (fu : Nat) (v : zHp) (a0 : Nat) (a1 : Nat) (a2 : Nat) (x3 : Int) (x4 : Int) (res : (zHp × (Int))), fX8_pairUp_L10 fu v a0 a1 a2 x3 x4 = some res → zV 0 137 v → zG E 137 a0 8 14 → zG E 137 a1 1 3 → zG E 137 a2 7 10 → zR x3 → zR x4 → (∀ (w : zHp) (q : Int), res = (w, q) → zV 0 137 w → True → zX E 0 0 137 w 151 [none, none, none, none, none, none] []) → zX E 0 0 137 v 10 [some (zr a0), some (zr a1), some (zr a2), some (zi x3), some (zi x4), none] [] := by
  intro fu
  induction fu with
  | zero =>
    intro v _ _ _ _ _ res h
    cases h
  | succ fu ih =>
    intro v a0 a1 a2 x3 x4 res h hv ga0 ga1 ga2 Rx3 Rx4 K1
    rw [fX8_pairUp_L10.eq_2] at h
    refine z_iload C (zd tX8_pairUp 7 rfl) rfl ?_
    refine z_aload_n C (zd tX8_pairUp 8 rfl) rfl ?_
    refine gf_1_2 C ga1 zic_1 (zm zwd_223) (zd tX8_pairUp 9 rfl) ?_
    refine z_icmp_ge (tgt := 151) C Rx4 (hv.1 _ _) (zd tX8_pairUp 10 rfl) (by decide) h (fun h => ?_) (fun h => ?_)
    · refine z_sub (lo' := [none, none, none, none, none, none]) (zsub_n (zsub_n (zsub_n (zsub_n (zsub_n (zsub_n zsub_0)))))) ?_
      exact K1 _ _ (Option.some.inj h).symm hv trivial
    · refine z_aload_n C (zd tX8_pairUp 11 rfl) rfl ?_
      refine gl_1_1 C ga1 zic_1 (zm zwd_219) (vl_1_1 ho hv ga1) (zd tX8_pairUp 12 rfl) ?_
      refine z_iload C (zd tX8_pairUp 13 rfl) rfl ?_
      obtain ⟨q2, h⟩ := zck_some h
      refine za_iald C (lk_1_1 ho ga1) rfl (by decide) q2 (zd tX8_pairUp 14 rfl) ?_
      refine z_istore C (zd tX8_pairUp 15 rfl) (by rw [hN]; decide) ?_
      refine z_aload_n C (zd tX8_pairUp 16 rfl) rfl ?_
      refine gl_8_1 C ga0 zic_8 (zm zwd_258) (vl_8_1 ho hv ga0) (zd tX8_pairUp 17 rfl) ?_
      refine z_iload C (zd tX8_pairUp 18 rfl) rfl ?_
      refine z_iconst C (zd tX8_pairUp 19 rfl) ?_
      obtain ⟨q3, h⟩ := zck_some h
      obtain ⟨v4, ev4, h⟩ := zb_some h
      have hv4 : zV 0 137 v4 := by rw [ev4]; exact hv.st (zR_c 2 rfl) (lk_8_1 ho ga0).1 (Or.inr rfl)
      refine za_iast C (lk_8_1 ho ga0) rfl (by decide) q3 ev4 (zd tX8_pairUp 20 rfl) ?_
      refine z_iload C (zd tX8_pairUp 21 rfl) rfl ?_
      refine z_if_eq (tgt := 46) C (hv.1 _ _) (zd tX8_pairUp 22 rfl) (by decide) h (fun h => ?_) (fun h => ?_)
      · refine z_sub (lo' := [some (zr a0), some (zr a1), some (zr a2), none, some (zi x4), some (zi (v (a1 + 2) x4))]) (zsub_s (zsub_s (zsub_s (zsub_n (zsub_s (zsub_s zsub_0)))))) ?_
        exact jX8_pairUp_J46 C hN ho hz hRm _ _ v4 a0 a1 a2 x4 (v (a1 + 2) x4) K1 trivial h hv4 ga0 ga1 ga2 Rx4 (hv.1 _ _) (fun w z3 z4 hw hvw y3 y4 => ih w a0 a1 a2 z3 z4 _ hw hvw ga0 ga1 ga2 y3 y4 K1)
      · refine z_iload_n C (zd tX8_pairUp 23 rfl) rfl ?_
        refine z_iconst C (zd tX8_pairUp 24 rfl) ?_
        refine z_icmp_ne (tgt := 62) C Rx3 (zR_c (-1) rfl) (zd tX8_pairUp 25 rfl) (by decide) h (fun h => ?_) (fun h => ?_)
        · refine z_aload_n C (zd tX8_pairUp 34 rfl) rfl ?_
          refine gl_1_0 C ga1 zic_1 (zm zwd_216) (vl_1_0 ho hv4 ga1) (zd tX8_pairUp 35 rfl) ?_
          refine z_iload C (zd tX8_pairUp 36 rfl) rfl ?_
          obtain ⟨q7, h⟩ := zck_some h
          refine za_iald C (lk_1_0 ho ga1) rfl (by decide) q7 (zd tX8_pairUp 37 rfl) ?_
          refine z_aload_n C (zd tX8_pairUp 38 rfl) rfl ?_
          refine gl_1_0 C ga1 zic_1 (zm zwd_216) (vl_1_0 ho hv4 ga1) (zd tX8_pairUp 39 rfl) ?_
          refine z_iload_n C (zd tX8_pairUp 40 rfl) rfl ?_
          obtain ⟨q8, h⟩ := zck_some h
          refine za_iald C (lk_1_0 ho ga1) rfl (by decide) q8 (zd tX8_pairUp 41 rfl) ?_
          refine z_isub C (zd tX8_pairUp 42 rfl) ?_
          refine z_aload_n C (zd tX8_pairUp 43 rfl) rfl ?_
          refine gf_7_8 C ga2 zic_7 (zm zwd_179) (zd tX8_pairUp 44 rfl) ?_
          refine z_bipush C (by decide) (zd tX8_pairUp 45 rfl) ?_
          refine z_imul C (zd tX8_pairUp 46 rfl) ?_
          obtain ⟨t9, et9, Rt9, h⟩ := zn_some h
          refine z_n0 (congrArg zI et9.symm) ?_
          obtain ⟨t10, et10, Rt10, h⟩ := zn_some h
          refine z_n1 (congrArg zI et10.symm) ?_
          refine z_icmp_gt (tgt := 132) C Rt10 Rt9 (zd tX8_pairUp 47 rfl) (by decide) h (fun h => ?_) (fun h => ?_)
          · refine z_iload C (zd tX8_pairUp 76 rfl) rfl ?_
            refine z_iconst C (zd tX8_pairUp 77 rfl) ?_
            refine z_icmp_ne (tgt := 142) C (hv.1 _ _) (zR_c 1 rfl) (zd tX8_pairUp 78 rfl) (by decide) h (fun h => ?_) (fun h => ?_)
            · refine z_iload C (zd tX8_pairUp 81 rfl) rfl ?_
              refine z_istore_n C (zd tX8_pairUp 82 rfl) (by rw [hN]; decide) ?_
              obtain ⟨t11, et11, Rt11, h⟩ := zn_some h
              refine z_iincE C (zd tX8_pairUp 83 rfl) (by rw [hN]; decide) rfl et11 ?_
              refine z_goto (tgt := 10) C (zd tX8_pairUp 84 rfl) (by decide) ?_
              refine z_sub (lo' := [some (zr a0), some (zr a1), some (zr a2), some (zi x4), some (zi t11), none]) (zsub_s (zsub_s (zsub_s (zsub_s (zsub_s (zsub_n zsub_0)))))) ?_
              exact ih v4 a0 a1 a2 x4 t11 _ h hv4 ga0 ga1 ga2 Rx4 Rt11 K1
            · refine z_iconst C (zd tX8_pairUp 79 rfl) ?_
              refine z_goto (tgt := 144) C (zd tX8_pairUp 80 rfl) (by decide) ?_
              refine z_istore_n C (zd tX8_pairUp 82 rfl) (by rw [hN]; decide) ?_
              obtain ⟨t12, et12, Rt12, h⟩ := zn_some h
              refine z_iincE C (zd tX8_pairUp 83 rfl) (by rw [hN]; decide) rfl et12 ?_
              refine z_goto (tgt := 10) C (zd tX8_pairUp 84 rfl) (by decide) ?_
              refine z_sub (lo' := [some (zr a0), some (zr a1), some (zr a2), some (zi (-1)), some (zi t12), none]) (zsub_s (zsub_s (zsub_s (zsub_s (zsub_s (zsub_n zsub_0)))))) ?_
              exact ih v4 a0 a1 a2 (-1) t12 _ h hv4 ga0 ga1 ga2 (zR_c (-1) rfl) Rt12 K1
          · refine z_aload_n C (zd tX8_pairUp 48 rfl) rfl ?_
            refine gl_8_1 C ga0 zic_8 (zm zwd_258) (vl_8_1 ho hv4 ga0) (zd tX8_pairUp 49 rfl) ?_
            refine z_iload_n C (zd tX8_pairUp 50 rfl) rfl ?_
            refine z_iconst C (zd tX8_pairUp 51 rfl) ?_
            obtain ⟨q13, h⟩ := zck_some h
            obtain ⟨v14, ev14, h⟩ := zb_some h
            have hv14 : zV 0 137 v14 := by rw [ev14]; exact hv4.st (zR_c 0 rfl) (lk_8_1 ho ga0).1 (Or.inr rfl)
            refine za_iast C (lk_8_1 ho ga0) rfl (by decide) q13 ev14 (zd tX8_pairUp 52 rfl) ?_
            refine z_aload_n C (zd tX8_pairUp 53 rfl) rfl ?_
            refine gl_8_1 C ga0 zic_8 (zm zwd_258) (vl_8_1 ho hv14 ga0) (zd tX8_pairUp 54 rfl) ?_
            refine z_iload C (zd tX8_pairUp 55 rfl) rfl ?_
            refine z_iconst C (zd tX8_pairUp 56 rfl) ?_
            obtain ⟨q15, h⟩ := zck_some h
            obtain ⟨v16, ev16, h⟩ := zb_some h
            have hv16 : zV 0 137 v16 := by rw [ev16]; exact hv14.st (zR_c 1 rfl) (lk_8_1 ho ga0).1 (Or.inr rfl)
            refine za_iast C (lk_8_1 ho ga0) rfl (by decide) q15 ev16 (zd tX8_pairUp 57 rfl) ?_
            refine z_aload_n C (zd tX8_pairUp 58 rfl) rfl ?_
            refine z_aload_n C (zd tX8_pairUp 59 rfl) rfl ?_
            refine z_aload_n C (zd tX8_pairUp 60 rfl) rfl ?_
            refine gl_1_0 C ga1 zic_1 (zm zwd_216) (vl_1_0 ho hv16 ga1) (zd tX8_pairUp 61 rfl) ?_
            refine z_iload_n C (zd tX8_pairUp 62 rfl) rfl ?_
            obtain ⟨q17, h⟩ := zck_some h
            refine za_iald C (lk_1_0 ho ga1) rfl (by decide) q17 (zd tX8_pairUp 63 rfl) ?_
            obtain ⟨v18, r19, cv18, h⟩ := zcl_some h
            refine zc_V C ho hz hRm (qX7_rounded _ _ _ _ ga2.1 (hv16.1 _ _) hv16 cv18) ga2 (by decide) rfl (zgV zwd_685 zwd_686 zwd_687 zwd_4 zwd_688) rfl pX7_rounded rfl ⟨rfl, rfl⟩ ⟨Nat.le_of_ble_eq_true rfl, Nat.le_of_ble_eq_true rfl⟩ [zr a0] rfl (Nat.le_of_ble_eq_true rfl) (zd tX8_pairUp 64 rfl) [zi r19, zr a0] rfl (fun p20 => ?_)
            refine z_aload_n C (zd tX8_pairUp 65 rfl) rfl ?_
            refine z_aload_n C (zd tX8_pairUp 66 rfl) rfl ?_
            refine gl_1_0 C ga1 zic_1 (zm zwd_216) (vl_1_0 ho p20.1 ga1) (zd tX8_pairUp 67 rfl) ?_
            refine z_iload C (zd tX8_pairUp 68 rfl) rfl ?_
            obtain ⟨q21, h⟩ := zck_some h
            refine za_iald C (lk_1_0 ho ga1) rfl (by decide) q21 (zd tX8_pairUp 69 rfl) ?_
            obtain ⟨v22, r23, cv22, h⟩ := zcl_some h
            refine zc_V C ho hz hRm (qX7_rounded _ _ _ _ ga2.1 (p20.1.1 _ _) p20.1 cv22) ga2 (by decide) rfl (zgV zwd_685 zwd_686 zwd_687 zwd_4 zwd_688) rfl pX7_rounded rfl ⟨rfl, rfl⟩ ⟨Nat.le_of_ble_eq_true rfl, Nat.le_of_ble_eq_true rfl⟩ [zi r19, zr a0] rfl (Nat.le_of_ble_eq_true rfl) (zd tX8_pairUp 70 rfl) [zi r23, zi r19, zr a0] rfl (fun p24 => ?_)
            refine z_aload_n C (zd tX8_pairUp 71 rfl) rfl ?_
            obtain ⟨v25, r26, cv25, h⟩ := zcl_some h
            refine zc_V C ho hz hRm (qX8_addSpan _ _ _ _ ga0.1 p20.2 p24.2 ga2.1 p24.1 cv25) ga0 (by decide) rfl (zgV zwd_689 zwd_691 zws_14 zwd_8 zwd_692) rfl pX8_addSpan rfl ⟨rfl, rfl⟩ ⟨Nat.le_of_ble_eq_true rfl, Nat.le_of_ble_eq_true rfl⟩ [] rfl (Nat.le_of_ble_eq_true rfl) (zd tX8_pairUp 72 rfl) [] rfl (fun p27 => ?_)
            refine z_iconst C (zd tX8_pairUp 73 rfl) ?_
            refine z_istore_n C (zd tX8_pairUp 74 rfl) (by rw [hN]; decide) ?_
            refine z_goto (tgt := 145) C (zd tX8_pairUp 75 rfl) (by decide) ?_
            obtain ⟨t28, et28, Rt28, h⟩ := zn_some h
            refine z_iincE C (zd tX8_pairUp 83 rfl) (by rw [hN]; decide) rfl et28 ?_
            refine z_goto (tgt := 10) C (zd tX8_pairUp 84 rfl) (by decide) ?_
            refine z_sub (lo' := [some (zr a0), some (zr a1), some (zr a2), some (zi (-1)), some (zi t28), none]) (zsub_s (zsub_s (zsub_s (zsub_s (zsub_s (zsub_n zsub_0)))))) ?_
            exact ih v25 a0 a1 a2 (-1) t28 _ h p27 ga0 ga1 ga2 (zR_c (-1) rfl) Rt28 K1
        · refine z_sub (lo' := [some (zr a0), some (zr a1), some (zr a2), none, some (zi x4), some (zi (v (a1 + 2) x4))]) (zsub_s (zsub_s (zsub_s (zsub_n (zsub_s (zsub_s zsub_0)))))) ?_
          exact jX8_pairUp_J46 C hN ho hz hRm _ _ v4 a0 a1 a2 x4 (v (a1 + 2) x4) K1 trivial h hv4 ga0 ga1 ga2 Rx4 (hv.1 _ _) (fun w z3 z4 hw hvw y3 y4 => ih w a0 a1 a2 z3 z4 _ hw hvw ga0 ga1 ga2 y3 y4 K1)
set_option maxRecDepth 100000 in
set_option maxHeartbeats 4000000 in
theorem qX8_pairUp (l : Launch) (D : va_G) (ids : Nat → ClassId) (b : Nat) {a0 : Nat} (k0 : zK a0 = (8, 14)) {a1 : Nat} (k1 : zK a1 = (1, 3)) {a2 : Nat} (k2 : zK a2 = (7, 10)) {v v' : zHp} {r' : Int} (hv : zV 0 137 v) (h : fX8_pairUp v a0 a1 a2 = some (v', r')) : zCT l yX8_pairUp vsX8_pairUp rmX8_pairUp D ids b 0 False 137 [zr a0, zr a1, zr a2] v 137 (zV 0 137 v') none v' 0 0 := by
  refine zMet (own := RX8) (by decide +kernel) (show vsX8_pairUp = _ from rfl) (Nat.le_of_ble_eq_true rfl) rfl ?_
  intro E hl hRm hD hids hb ho hz hN C hname ret
  subst hl hD hids hb
  have ga0 := kg_8 ho k0
  have ga1 := kg_1 ho k1
  have ga2 := kg_7 ho k2
  unfold fX8_pairUp at h
  refine z_aload_n C (zd tX8_pairUp 0 rfl) rfl ?_
  refine z_iconst C (zd tX8_pairUp 1 rfl) ?_
  obtain ⟨v1, ev1, h⟩ := zb_some h
  have hv1 : zV 0 137 v1 := by rw [ev1]; exact hv.st (zR_c 0 rfl) ga0.1 (Or.inr rfl)
  refine pf_8_5 C ga0 zic_8 (zm zwd_266) ev1 (zd tX8_pairUp 2 rfl) ?_
  refine z_iconst C (zd tX8_pairUp 3 rfl) ?_
  refine z_istore_n C (zd tX8_pairUp 4 rfl) (by rw [hN]; decide) ?_
  refine z_iconst C (zd tX8_pairUp 5 rfl) ?_
  refine z_istore C (zd tX8_pairUp 6 rfl) (by rw [hN]; decide) ?_
  refine z_sub (lo' := [some (zr a0), some (zr a1), some (zr a2), some (zi (-1)), some (zi 0), none]) (zsub_s (zsub_s (zsub_s (zsub_s (zsub_s (zsub_n zsub_0)))))) ?_
  obtain ⟨v29, w30, lv29, h⟩ := zl_some h
  refine bX8_pairUp_L10 C hN ho hz hRm zFU v1 a0 a1 a2 (-1) 0 _ lv29 hv1 ga0 ga1 ga2 (zR_c (-1) rfl) (zR_c 0 rfl) (fun w1 q1 e1 hv29 Rw30 => ?_)
  obtain ⟨rfl, rfl⟩ := zpp e1
  obtain ⟨rfl, rfl⟩ := zpi h
  exact ret.2.1 _ _ hv29 rfl rfl (zd tX8_pairUp 85 rfl)
noncomputable def vsX8_payWeek : List Cond := .code yX8_payWeek cX8_payWeek 8 none :: zbig
abbrev rmX8_payWeek : Room := { frames := 4, cells := 0, slots := 0, locals := 109 }
theorem pX8_payWeek : yX8_payWeek.cls = RX8 ∧ yX8_payWeek.cls ≠ "java/lang/invoke/MethodHandle" ∧ yX8_payWeek.cls ≠ "java/lang/invoke/VarHandle" ∧ (parseMethodDescriptor yX8_payWeek.desc).map (fun d => d.parameters.length) = some 4 := by decide +kernel
set_option maxRecDepth 100000 in
set_option maxHeartbeats 4000000 in
theorem bX8_payWeek_L29 {E : zE} (C : zC E 137 cX8_payWeek RX8 vsX8_payWeek) (hN : zEN E = 8) (ho : zEo E = 0) (hz : zEz E = False) (hRm : zER E = rmX8_payWeek) : ∀ (fu : Nat) (v : zHp) (a0 : Nat) (x1 : Int) (a2 : Nat) (x3 : Int) (x6 : Int) (res : (zHp × (Int))), fX8_payWeek_L29 fu v a0 x1 a2 x3 x6 = some res → zV 0 137 v → zG E 137 a0 8 14 → zR x1 → zG E 137 a2 7 10 → zR x3 → zR x6 → (∀ (w : zHp) (q : Int), res = (w, q) → zV 0 137 w → True → zX E 0 0 137 w 66 [some (zr a0), some (zi x1), some (zr a2), some (zi x3), some (zr 125), some (zr 126), none, none] []) → zX E 0 0 137 v 29 [some (zr a0), some (zi x1), some (zr a2), some (zi x3), some (zr 125), some (zr 126), some (zi x6), none] [] := by
  intro fu
  induction fu with
  | zero =>
    intro v _ _ _ _ _ res h
    cases h
  | succ fu ih =>
    intro v a0 x1 a2 x3 x6 res h hv ga0 Rx1 ga2 Rx3 Rx6 K1
    rw [fX8_payWeek_L29.eq_2] at h
    refine z_iload C (zd tX8_payWeek 16 rfl) rfl ?_
    refine z_aload C (zd tX8_payWeek 17 rfl) rfl ?_
    refine gf_10_3 C (lg_126 ho) zic_10 (zm zwd_358) (zd tX8_payWeek 18 rfl) ?_
    refine z_icmp_ge (tgt := 66) C Rx6 (hv.1 _ _) (zd tX8_payWeek 19 rfl) (by decide) h (fun h => ?_) (fun h => ?_)
    · refine z_sub (lo' := [some (zr a0), some (zi x1), some (zr a2), some (zi x3), some (zr 125), some (zr 126), none, none]) (zsub_s (zsub_s (zsub_s (zsub_s (zsub_s (zsub_s (zsub_n (zsub_n zsub_0)))))))) ?_
      exact K1 _ _ (Option.some.inj h).symm hv trivial
    · refine z_aload_n C (zd tX8_payWeek 20 rfl) rfl ?_
      refine gl_8_7 C ga0 zic_8 (zm zwd_270) (vl_8_7 ho hv ga0) (zd tX8_payWeek 21 rfl) ?_
      refine z_aload C (zd tX8_payWeek 22 rfl) rfl ?_
      refine gl_10_0 (t := 127) C (lg_126 ho) zic_10 (zm zwd_349) (vl_10_0 ho hv (lg_126 ho)) (zd tX8_payWeek 23 rfl) ?_
      refine z_iload C (zd tX8_payWeek 24 rfl) rfl ?_
      obtain ⟨q9, h⟩ := zck_some h
      refine za_iald C (lg_127 ho) rfl (by decide) q9 (zd tX8_payWeek 25 rfl) ?_
      refine z_aload C (zd tX8_payWeek 26 rfl) rfl ?_
      refine gl_10_2 (t := 129) C (lg_126 ho) zic_10 (zm zwd_355) (vl_10_2 ho hv (lg_126 ho)) (zd tX8_payWeek 27 rfl) ?_
      refine z_iload C (zd tX8_payWeek 28 rfl) rfl ?_
      obtain ⟨q10, h⟩ := zck_some h
      refine za_iald C (lg_129 ho) rfl (by decide) q10 (zd tX8_payWeek 29 rfl) ?_
      obtain ⟨q11, h⟩ := zck_some h
      obtain ⟨v12, ev12, h⟩ := zb_some h
      have hv12 : zV 0 137 v12 := by rw [ev12]; exact hv.st (hv.1 _ _) (lk_8_7 ho ga0).1 (Or.inr rfl)
      refine za_iast C (lk_8_7 ho ga0) rfl (by decide) q11 ev12 (zd tX8_payWeek 30 rfl) ?_
      obtain ⟨t13, et13, Rt13, h⟩ := zn_some h
      refine z_iincE C (zd tX8_payWeek 31 rfl) (by rw [hN]; decide) rfl et13 ?_
      refine z_goto (tgt := 29) C (zd tX8_payWeek 32 rfl) (by decide) ?_
      refine z_sub (lo' := [some (zr a0), some (zi x1), some (zr a2), some (zi x3), some (zr 125), some (zr 126), some (zi t13), none]) (zsub_s (zsub_s (zsub_s (zsub_s (zsub_s (zsub_s (zsub_s (zsub_n zsub_0)))))))) ?_
      exact ih v12 a0 x1 a2 x3 t13 _ h hv12 ga0 Rx1 ga2 Rx3 Rt13 K1
set_option maxRecDepth 100000 in
set_option maxHeartbeats 4000000 in
theorem bX8_payWeek_L78 {E : zE} (C : zC E 137 cX8_payWeek RX8 vsX8_payWeek) (hN : zEN E = 8) (ho : zEo E = 0) (hz : zEz E = False) (hRm : zER E = rmX8_payWeek) : ∀ (fu : Nat) (v : zHp) (a0 : Nat) (x1 : Int) (a2 : Nat) (x6 : Int) (x7 : Int) (res : (zHp × (Int))), fX8_payWeek_L78 fu v a0 x1 a2 x6 x7 = some res → zV 0 137 v → zG E 137 a0 8 14 → zR x1 → zG E 137 a2 7 10 → zR x6 → zR x7 → (∀ (w : zHp) (q : Int), res = (w, q) → zV 0 137 w → True → zX E 0 0 137 w 136 [some (zr a0), some (zi x1), some (zr a2), none, none, some (zr 126), some (zi x6), none] []) → zX E 0 0 137 v 78 [some (zr a0), some (zi x1), some (zr a2), none, none, some (zr 126), some (zi x6), some (zi x7)] [] := by
  intro fu
  induction fu with
  | zero =>
    intro v _ _ _ _ _ res h
    cases h
  | succ fu ih =>
    intro v a0 x1 a2 x6 x7 res h hv ga0 Rx1 ga2 Rx6 Rx7 K1
    rw [fX8_payWeek_L78.eq_2] at h
    refine z_iload C (zd tX8_payWeek 40 rfl) rfl ?_
    refine z_aload C (zd tX8_payWeek 41 rfl) rfl ?_
    refine gf_10_3 C (lg_126 ho) zic_10 (zm zwd_358) (zd tX8_payWeek 42 rfl) ?_
    refine z_icmp_ge (tgt := 136) C Rx7 (hv.1 _ _) (zd tX8_payWeek 43 rfl) (by decide) h (fun h => ?_) (fun h => ?_)
    · refine z_sub (lo' := [some (zr a0), some (zi x1), some (zr a2), none, none, some (zr 126), some (zi x6), none]) (zsub_s (zsub_s (zsub_s (zsub_n (zsub_n (zsub_s (zsub_s (zsub_n zsub_0)))))))) ?_
      exact K1 _ _ (Option.some.inj h).symm hv trivial
    · refine z_aload_n C (zd tX8_payWeek 44 rfl) rfl ?_
      refine gl_8_6 C ga0 zic_8 (zm zwd_268) (vl_8_6 ho hv ga0) (zd tX8_payWeek 45 rfl) ?_
      refine z_aload C (zd tX8_payWeek 46 rfl) rfl ?_
      refine gl_10_0 (t := 127) C (lg_126 ho) zic_10 (zm zwd_349) (vl_10_0 ho hv (lg_126 ho)) (zd tX8_payWeek 47 rfl) ?_
      refine z_iload C (zd tX8_payWeek 48 rfl) rfl ?_
      obtain ⟨q19, h⟩ := zck_some h
      refine za_iald C (lg_127 ho) rfl (by decide) q19 (zd tX8_payWeek 49 rfl) ?_
      refine z_aload C (zd tX8_payWeek 50 rfl) rfl ?_
      refine gl_10_2 (t := 129) C (lg_126 ho) zic_10 (zm zwd_355) (vl_10_2 ho hv (lg_126 ho)) (zd tX8_payWeek 51 rfl) ?_
      refine z_iload C (zd tX8_payWeek 52 rfl) rfl ?_
      obtain ⟨q20, h⟩ := zck_some h
      refine za_iald C (lg_129 ho) rfl (by decide) q20 (zd tX8_payWeek 53 rfl) ?_
      obtain ⟨q21, h⟩ := zck_some h
      obtain ⟨v22, ev22, h⟩ := zb_some h
      have hv22 : zV 0 137 v22 := by rw [ev22]; exact hv.st (hv.1 _ _) (lk_8_6 ho ga0).1 (Or.inr rfl)
      refine za_iast C (lk_8_6 ho ga0) rfl (by decide) q21 ev22 (zd tX8_payWeek 54 rfl) ?_
      refine z_aload_n C (zd tX8_payWeek 55 rfl) rfl ?_
      refine gl_8_8 C ga0 zic_8 (zm zwd_272) (vl_8_8 ho hv22 ga0) (zd tX8_payWeek 56 rfl) ?_
      refine z_aload C (zd tX8_payWeek 57 rfl) rfl ?_
      refine gl_10_0 (t := 127) C (lg_126 ho) zic_10 (zm zwd_349) (vl_10_0 ho hv22 (lg_126 ho)) (zd tX8_payWeek 58 rfl) ?_
      refine z_iload C (zd tX8_payWeek 59 rfl) rfl ?_
      obtain ⟨q23, h⟩ := zck_some h
      refine za_iald C (lg_127 ho) rfl (by decide) q23 (zd tX8_payWeek 60 rfl) ?_
      refine z_aload C (zd tX8_payWeek 61 rfl) rfl ?_
      refine gl_10_1 (t := 128) C (lg_126 ho) zic_10 (zm zwd_352) (vl_10_1 ho hv22 (lg_126 ho)) (zd tX8_payWeek 62 rfl) ?_
      refine z_iload C (zd tX8_payWeek 63 rfl) rfl ?_
      obtain ⟨q24, h⟩ := zck_some h
      refine za_iald C (lg_128 ho) rfl (by decide) q24 (zd tX8_payWeek 64 rfl) ?_
      obtain ⟨q25, h⟩ := zck_some h
      obtain ⟨v26, ev26, h⟩ := zb_some h
      have hv26 : zV 0 137 v26 := by rw [ev26]; exact hv22.st (hv22.1 _ _) (lk_8_8 ho ga0).1 (Or.inr rfl)
      refine za_iast C (lk_8_8 ho ga0) rfl (by decide) q25 ev26 (zd tX8_payWeek 65 rfl) ?_
      obtain ⟨t27, et27, Rt27, h⟩ := zn_some h
      refine z_iincE C (zd tX8_payWeek 66 rfl) (by rw [hN]; decide) rfl et27 ?_
      refine z_goto (tgt := 78) C (zd tX8_payWeek 67 rfl) (by decide) ?_
      refine z_sub (lo' := [some (zr a0), some (zi x1), some (zr a2), none, none, some (zr 126), some (zi x6), some (zi t27)]) (zsub_s (zsub_s (zsub_s (zsub_n (zsub_n (zsub_s (zsub_s (zsub_s zsub_0)))))))) ?_
      exact ih v26 a0 x1 a2 x6 t27 _ h hv26 ga0 Rx1 ga2 Rx6 Rt27 K1
set_option maxRecDepth 100000 in
set_option maxHeartbeats 4000000 in
theorem qX8_payWeek (l : Launch) (D : va_G) (ids : Nat → ClassId) (b : Nat) {a0 : Nat} (k0 : zK a0 = (8, 14)) {x1 : Int} (Rx1 : zR x1) {a2 : Nat} (k2 : zK a2 = (7, 10)) {x3 : Int} (Rx3 : zR x3) {v v' : zHp} {r' : Int} (hv : zV 0 137 v) (h : fX8_payWeek v a0 x1 a2 x3 = some (v', r')) : zCT l yX8_payWeek vsX8_payWeek rmX8_payWeek D ids b 0 False 137 [zr a0, zi x1, zr a2, zi x3, zr 125] v 137 (zV 0 137 v') none v' 0 0 := by
  refine zMet (own := RX8) (by decide +kernel) (show vsX8_payWeek = _ from rfl) (Nat.le_of_ble_eq_true rfl) rfl ?_
  intro E hl hRm hD hids hb ho hz hN C hname ret
  subst hl hD hids hb
  have ga0 := kg_8 ho k0
  have ga2 := kg_7 ho k2
  unfold fX8_payWeek at h
  refine z_aload C (zd tX8_payWeek 0 rfl) rfl ?_
  refine gl_0_0 (t := 126) C (lg_125 ho) zic_0 (zm zwd_372) (vl_0_0 ho hv (lg_125 ho)) (zd tX8_payWeek 1 rfl) ?_
  refine z_astore C (zd tX8_payWeek 2 rfl) (by rw [hN]; decide) ?_
  refine z_aload C (zd tX8_payWeek 3 rfl) rfl ?_
  refine z_iload_n C (zd tX8_payWeek 4 rfl) rfl ?_
  refine z_aload_n C (zd tX8_payWeek 5 rfl) rfl ?_
  obtain ⟨u1, eu1, h⟩ := zb_some h
  obtain ⟨q2, h⟩ := zck_some h
  have gu1 := kg_4 ho q2.2
  refine gl_8_9 C ga0 zic_8 (zm zwd_274) (zdyn q2.1 eu1) (zd tX8_payWeek 6 rfl) ?_
  refine z_aload_n C (zd tX8_payWeek 7 rfl) rfl ?_
  refine z_iload_n C (zd tX8_payWeek 8 rfl) rfl ?_
  obtain ⟨v3, r4, cv3, h⟩ := zcl_some h
  refine zc_V C ho hz hRm (qX10_gather _ _ _ _ Rx1 gu1.1 ga2.1 Rx3 hv cv3) (lg_126 ho) (by decide) rfl (zgV zwd_723 zwd_724 zwd_725 zwd_12 zwd_726) rfl pX10_gather rfl ⟨rfl, rfl⟩ ⟨Nat.le_of_ble_eq_true rfl, Nat.le_of_ble_eq_true rfl⟩ [] rfl (Nat.le_of_ble_eq_true rfl) (zd tX8_payWeek 9 rfl) [] rfl (fun p5 => ?_)
  refine z_aload C (zd tX8_payWeek 10 rfl) rfl ?_
  refine z_aload_n C (zd tX8_payWeek 11 rfl) rfl ?_
  refine z_iload_n C (zd tX8_payWeek 12 rfl) rfl ?_
  obtain ⟨v6, r7, cv6, h⟩ := zcl_some h
  refine zc_V C ho hz hRm (qX10_payAsTheyCome _ _ _ _ ga2.1 Rx3 p5 cv6) (lg_126 ho) (by decide) rfl (zgV zwd_748 zwd_749 zwd_750 zwd_12 zwd_751) rfl pX10_payAsTheyCome rfl ⟨rfl, rfl⟩ ⟨Nat.le_of_ble_eq_true rfl, Nat.le_of_ble_eq_true rfl⟩ [] rfl (Nat.le_of_ble_eq_true rfl) (zd tX8_payWeek 13 rfl) [] rfl (fun p8 => ?_)
  refine z_iconst C (zd tX8_payWeek 14 rfl) ?_
  refine z_istore C (zd tX8_payWeek 15 rfl) (by rw [hN]; decide) ?_
  refine z_sub (lo' := [some (zr a0), some (zi x1), some (zr a2), some (zi x3), some (zr 125), some (zr 126), some (zi 0), none]) (zsub_s (zsub_s (zsub_s (zsub_s (zsub_s (zsub_s (zsub_s (zsub_n zsub_0)))))))) ?_
  obtain ⟨v14, w15, lv14, h⟩ := zl_some h
  refine bX8_payWeek_L29 C hN ho hz hRm zFU v6 a0 x1 a2 x3 0 _ lv14 p8 ga0 Rx1 ga2 Rx3 (zR_c 0 rfl) (fun w1 q1 e1 hv14 Rw15 => ?_)
  obtain ⟨rfl, rfl⟩ := zpp e1
  refine z_aload C (zd tX8_payWeek 33 rfl) rfl ?_
  refine z_aload_n C (zd tX8_payWeek 34 rfl) rfl ?_
  refine z_iload_n C (zd tX8_payWeek 35 rfl) rfl ?_
  obtain ⟨v16, r17, cv16, h⟩ := zcl_some h
  refine zc_V C ho hz hRm (qX0_payBest _ _ _ _ ga2.1 Rx3 hv14 cv16) (lg_125 ho) (by decide) rfl (zgV zwd_768 zwd_769 zwd_770 zwd_11 zwd_771) rfl pX0_payBest rfl ⟨rfl, rfl⟩ ⟨Nat.le_of_ble_eq_true rfl, Nat.le_of_ble_eq_true rfl⟩ [] rfl (Nat.le_of_ble_eq_true rfl) (zd tX8_payWeek 36 rfl) [zi r17] rfl (fun p18 => ?_)
  refine z_istore C (zd tX8_payWeek 37 rfl) (by rw [hN]; decide) ?_
  refine z_iconst C (zd tX8_payWeek 38 rfl) ?_
  refine z_istore C (zd tX8_payWeek 39 rfl) (by rw [hN]; decide) ?_
  refine z_sub (lo' := [some (zr a0), some (zi x1), some (zr a2), none, none, some (zr 126), some (zi r17), some (zi 0)]) (zsub_s (zsub_s (zsub_s (zsub_n (zsub_n (zsub_s (zsub_s (zsub_s zsub_0)))))))) ?_
  obtain ⟨v28, w29, lv28, h⟩ := zl_some h
  refine bX8_payWeek_L78 C hN ho hz hRm zFU v16 a0 x1 a2 r17 0 _ lv28 p18.1 ga0 Rx1 ga2 p18.2 (zR_c 0 rfl) (fun w1 q1 e1 hv28 Rw29 => ?_)
  obtain ⟨rfl, rfl⟩ := zpp e1
  refine z_aload_n C (zd tX8_payWeek 68 rfl) rfl ?_
  refine gl_8_11 C ga0 zic_8 (zm zwd_276) (vl_8_11 ho hv28 ga0) (zd tX8_payWeek 69 rfl) ?_
  refine z_iload_n C (zd tX8_payWeek 70 rfl) rfl ?_
  refine z_aload_n C (zd tX8_payWeek 71 rfl) rfl ?_
  refine gf_7_9 C ga2 zic_7 (zm zwd_184) (zd tX8_payWeek 72 rfl) ?_
  refine z_bipush C (by decide) (zd tX8_payWeek 73 rfl) ?_
  refine z_aload C (zd tX8_payWeek 74 rfl) rfl ?_
  refine gf_10_3 C (lg_126 ho) zic_10 (zm zwd_358) (zd tX8_payWeek 75 rfl) ?_
  refine z_imul C (zd tX8_payWeek 76 rfl) ?_
  refine z_iload C (zd tX8_payWeek 77 rfl) rfl ?_
  refine z_iadd C (zd tX8_payWeek 78 rfl) ?_
  refine z_imul C (zd tX8_payWeek 79 rfl) ?_
  obtain ⟨t30, et30, Rt30, h⟩ := zn_some h
  refine z_n0 (congrArg zI et30.symm) ?_
  obtain ⟨q31, h⟩ := zck_some h
  obtain ⟨v32, ev32, h⟩ := zb_some h
  have hv32 : zV 0 137 v32 := by rw [ev32]; exact hv28.st Rt30 (lk_8_11 ho ga0).1 (Or.inr rfl)
  refine za_iast C (lk_8_11 ho ga0) rfl (by decide) q31 ev32 (zd tX8_payWeek 80 rfl) ?_
  refine z_aload_n C (zd tX8_payWeek 81 rfl) rfl ?_
  refine z_dup C (zd tX8_payWeek 82 rfl) ?_
  refine gf_8_12 C ga0 zic_8 (zm zwd_277) (zd tX8_payWeek 83 rfl) ?_
  refine z_iconst C (zd tX8_payWeek 84 rfl) ?_
  refine z_iload_n C (zd tX8_payWeek 85 rfl) rfl ?_
  refine z_ishl C (zd tX8_payWeek 86 rfl) ?_
  refine z_ior C (zd tX8_payWeek 87 rfl) ?_
  obtain ⟨v33, ev33, h⟩ := zb_some h
  have hv33 : zV 0 137 v33 := by rw [ev33]; exact hv32.st (zR_or _ _) ga0.1 (Or.inr rfl)
  refine pf_8_12 C ga0 zic_8 (zm zwd_277) ev33 (zd tX8_payWeek 88 rfl) ?_
  obtain ⟨rfl, rfl⟩ := zpi h
  exact ret.2.1 _ _ hv33 rfl rfl (zd tX8_payWeek 89 rfl)
noncomputable def vsX8_renew : List Cond := .code yX8_renew cX8_renew 9 none :: zbig
abbrev rmX8_renew : Room := { frames := 5, cells := 0, slots := 0, locals := 136 }
theorem pX8_renew : yX8_renew.cls = RX8 ∧ yX8_renew.cls ≠ "java/lang/invoke/MethodHandle" ∧ yX8_renew.cls ≠ "java/lang/invoke/VarHandle" ∧ (parseMethodDescriptor yX8_renew.desc).map (fun d => d.parameters.length) = some 4 := by decide +kernel
set_option maxRecDepth 100000 in
set_option maxHeartbeats 4000000 in
theorem jX8_renew_J122 {E : zE} (C : zC E 137 cX8_renew RX8 vsX8_renew) (hN : zEN E = 9) (ho : zEo E = 0) (hz : zEz E = False) (hRm : zER E = rmX8_renew) (rc : zHp → Nat → Nat → Int → Int → Option (zHp × (Int))) (res : (zHp × (Int))) (v : zHp) (a0 : Nat) (a2 : Nat) (x3 : Int) (x6 : Int) (x7 : Int) (x8 : Int) (K1 : ∀ (w : zHp) (q : Int), res = (w, q) → zV 0 137 w → True → zX E 0 0 137 w 146 [some (zr a0), none, none, none, none, none, none, none, none] []) (hrc0 : True) (h : fX8_renew_J122 rc v a0 a2 x3 x6 x7 x8 = some res) (hv : zV 0 137 v) (ga0 : zG E 137 a0 8 14) (ga2 : zG E 137 a2 7 10) (Rx3 : zR x3) (Rx6 : zR x6) (Rx7 : zR x7) (Rx8 : zR x8) (hrc : ∀ (v : zHp) (z6 : Int), rc v a0 a2 x3 z6 = some res → zV 0 137 v → zR z6 → zX E 0 0 137 v 55 [some (zr a0), none, some (zr a2), some (zi x3), some (zr 125), none, some (zi z6), none, none] []): zX E 0 0 137 v 122 [some (zr a0), none, some (zr a2), some (zi x3), some (zr 125), none, some (zi x6), some (zi x7), some (zi x8)] [] := by
  unfold fX8_renew_J122 at h
  refine z_aload_n C (zd tX8_renew 64 rfl) rfl ?_
  refine z_iload C (zd tX8_renew 65 rfl) rfl ?_
  refine z_iload C (zd tX8_renew 66 rfl) rfl ?_
  obtain ⟨v21, r22, cv21, h⟩ := zcl_some h
  refine zc_V C ho hz hRm (qX8_clearQuarters _ _ _ _ ga0.1 Rx7 Rx8 hv cv21) ga0 (by decide) rfl (zgV zwd_715 zwd_717 zws_16 zwd_8 zwd_718) rfl pX8_clearQuarters rfl ⟨rfl, rfl⟩ ⟨Nat.le_of_ble_eq_true rfl, Nat.le_of_ble_eq_true rfl⟩ [] rfl (Nat.le_of_ble_eq_true rfl) (zd tX8_renew 67 rfl) [] rfl (fun p23 => ?_)
  refine z_aload_n C (zd tX8_renew 68 rfl) rfl ?_
  refine z_iload C (zd tX8_renew 69 rfl) rfl ?_
  refine z_aload_n C (zd tX8_renew 70 rfl) rfl ?_
  refine z_iload_n C (zd tX8_renew 71 rfl) rfl ?_
  refine z_aload C (zd tX8_renew 72 rfl) rfl ?_
  obtain ⟨v24, r25, cv24, h⟩ := zcl_some h
  refine zc_V C ho hz hRm (qX8_payWeek _ _ _ _ ga0.1 Rx6 ga2.1 Rx3 p23 cv24) ga0 (by decide) rfl (zgV zwd_719 zwd_721 zws_17 zwd_8 zwd_722) rfl pX8_payWeek rfl ⟨rfl, rfl⟩ ⟨Nat.le_of_ble_eq_true rfl, Nat.le_of_ble_eq_true rfl⟩ [] rfl (Nat.le_of_ble_eq_true rfl) (zd tX8_renew 73 rfl) [] rfl (fun p26 => ?_)
  obtain ⟨t27, et27, Rt27, h⟩ := zn_some h
  refine z_iincE C (zd tX8_renew 74 rfl) (by rw [hN]; decide) rfl et27 ?_
  refine z_goto (tgt := 55) C (zd tX8_renew 75 rfl) (by decide) ?_
  refine z_sub (lo' := [some (zr a0), none, some (zr a2), some (zi x3), some (zr 125), none, some (zi t27), none, none]) (zsub_s (zsub_n (zsub_s (zsub_s (zsub_s (zsub_n (zsub_s (zsub_n (zsub_n zsub_0))))))))) ?_
  exact hrc v24 t27 h p26 Rt27
set_option maxRecDepth 100000 in
set_option maxHeartbeats 4000000 in
theorem bX8_renew_L55 {E : zE} (C : zC E 137 cX8_renew RX8 vsX8_renew) (hN : zEN E = 9) (ho : zEo E = 0) (hz : zEz E = False) (hRm : zER E = rmX8_renew) : ∀ (fu : Nat) (v : zHp) (a0 : Nat) (a2 : Nat) (x3 : Int) (x6 : Int) (res : (zHp × (Int))), fX8_renew_L55 fu v a0 a2 x3 x6 = some res → zV 0 137 v → zG E 137 a0 8 14 → zG E 137 a2 7 10 → zR x3 → zR x6 → (∀ (w : zHp) (q : Int), res = (w, q) → zV 0 137 w → True → zX E 0 0 137 w 146 [some (zr a0), none, none, none, none, none, none, none, none] []) → zX E 0 0 137 v 55 [some (zr a0), none, some (zr a2), some (zi x3), some (zr 125), none, some (zi x6), none, none] [] := by
  intro fu
  induction fu with
  | zero =>
    intro v _ _ _ _ res h
    cases h
  | succ fu ih =>
    intro v a0 a2 x3 x6 res h hv ga0 ga2 Rx3 Rx6 K1
    rw [fX8_renew_L55.eq_2] at h
    refine z_iload C (zd tX8_renew 30 rfl) rfl ?_
    refine z_iconst C (zd tX8_renew 31 rfl) ?_
    refine z_icmp_ge (tgt := 146) C Rx6 (zR_c 4 rfl) (zd tX8_renew 32 rfl) (by decide) h (fun h => ?_) (fun h => ?_)
    · refine z_sub (lo' := [some (zr a0), none, none, none, none, none, none, none, none]) (zsub_s (zsub_n (zsub_n (zsub_n (zsub_n (zsub_n (zsub_n (zsub_n (zsub_n zsub_0))))))))) ?_
      exact K1 _ _ (Option.some.inj h).symm hv trivial
    · refine z_aload_n C (zd tX8_renew 33 rfl) rfl ?_
      refine gl_7_0 C ga2 zic_7 (zm zwd_150) (vl_7_0 ho hv ga2) (zd tX8_renew 34 rfl) ?_
      refine z_iload C (zd tX8_renew 35 rfl) rfl ?_
      refine z_bipush C (by decide) (zd tX8_renew 36 rfl) ?_
      refine z_imul C (zd tX8_renew 37 rfl) ?_
      obtain ⟨t13, et13, Rt13, h⟩ := zn_some h
      refine z_nk 0 (congrArg zI et13.symm) rfl ?_
      obtain ⟨v14, r15, cv14, h⟩ := zcl_some h
      refine zc_V C ho hz hRm (qX2_quartersAhead _ _ _ _ (lk_7_0 ho ga2).1 Rt13 hv cv14) (lk_7_0 ho ga2) (by decide) rfl (zgV zwd_693 zwd_694 zwd_695 zwd_5 zwd_696) rfl pX2_quartersAhead rfl ⟨rfl, rfl⟩ ⟨Nat.le_of_ble_eq_true rfl, Nat.le_of_ble_eq_true rfl⟩ [] rfl (Nat.le_of_ble_eq_true rfl) (zd tX8_renew 38 rfl) [zi r15] rfl (fun p16 => ?_)
      refine z_istore C (zd tX8_renew 39 rfl) (by rw [hN]; decide) ?_
      refine z_aload_n C (zd tX8_renew 40 rfl) rfl ?_
      refine gl_7_0 C ga2 zic_7 (zm zwd_150) (vl_7_0 ho p16.1 ga2) (zd tX8_renew 41 rfl) ?_
      refine z_iload C (zd tX8_renew 42 rfl) rfl ?_
      refine z_bipush C (by decide) (zd tX8_renew 43 rfl) ?_
      refine z_imul C (zd tX8_renew 44 rfl) ?_
      refine z_bipush C (by decide) (zd tX8_renew 45 rfl) ?_
      refine z_iadd C (zd tX8_renew 46 rfl) ?_
      obtain ⟨t17, et17, Rt17, h⟩ := zn_some h
      refine z_nk 0 (congrArg zI et17.symm) rfl ?_
      obtain ⟨v18, r19, cv18, h⟩ := zcl_some h
      refine zc_V C ho hz hRm (qX2_quartersAhead _ _ _ _ (lk_7_0 ho ga2).1 Rt17 p16.1 cv18) (lk_7_0 ho ga2) (by decide) rfl (zgV zwd_693 zwd_694 zwd_695 zwd_5 zwd_696) rfl pX2_quartersAhead rfl ⟨rfl, rfl⟩ ⟨Nat.le_of_ble_eq_true rfl, Nat.le_of_ble_eq_true rfl⟩ [] rfl (Nat.le_of_ble_eq_true rfl) (zd tX8_renew 47 rfl) [zi r19] rfl (fun p20 => ?_)
      refine z_istore C (zd tX8_renew 48 rfl) (by rw [hN]; decide) ?_
      refine z_aload_n C (zd tX8_renew 49 rfl) rfl ?_
      refine gf_8_12 C ga0 zic_8 (zm zwd_277) (zd tX8_renew 50 rfl) ?_
      refine z_iload C (zd tX8_renew 51 rfl) rfl ?_
      refine z_ishr C (zd tX8_renew 52 rfl) ?_
      refine z_iconst C (zd tX8_renew 53 rfl) ?_
      refine z_iand C (zd tX8_renew 54 rfl) ?_
      refine z_if_eq (tgt := 122) C (zR_and _ _) (zd tX8_renew 55 rfl) (by decide) h (fun h => ?_) (fun h => ?_)
      · refine z_sub (lo' := [some (zr a0), none, some (zr a2), some (zi x3), some (zr 125), none, some (zi x6), some (zi r15), some (zi r19)]) (zsub_s (zsub_n (zsub_s (zsub_s (zsub_s (zsub_n (zsub_s (zsub_s (zsub_s zsub_0))))))))) ?_
        exact jX8_renew_J122 C hN ho hz hRm _ _ v18 a0 a2 x3 x6 r15 r19 K1 trivial h p20.1 ga0 ga2 Rx3 Rx6 p16.2 p20.2 (fun w z6 hw hvw y6 => ih w a0 a2 x3 z6 _ hw hvw ga0 ga2 Rx3 y6 K1)
      · refine z_aload_n C (zd tX8_renew 56 rfl) rfl ?_
        obtain ⟨u28, eu28, h⟩ := zb_some h
        obtain ⟨q29, h⟩ := zck_some h
        have gu28 := kg_4 ho q29.2
        refine gl_8_9 C ga0 zic_8 (zm zwd_274) (zdyn q29.1 eu28) (zd tX8_renew 57 rfl) ?_
        refine z_aload_n C (zd tX8_renew 58 rfl) rfl ?_
        obtain ⟨u30, eu30, h⟩ := zb_some h
        obtain ⟨q31, h⟩ := zck_some h
        have gu30 := kg_4 ho q31.2
        refine gl_8_10 C ga0 zic_8 (zm zwd_275) (zdyn q31.1 eu30) (zd tX8_renew 59 rfl) ?_
        refine z_iload C (zd tX8_renew 60 rfl) rfl ?_
        refine z_iload C (zd tX8_renew 61 rfl) rfl ?_
        obtain ⟨v32, r33, cv32, h⟩ := zcl_some h
        refine zc_V C ho hz hRm (qX4_sameWithin _ _ _ _ gu28.1 gu30.1 p16.2 p20.2 p20.1 cv32) gu28 (by decide) rfl (zgV zwd_703 zwd_704 zwd_705 zwd_9 zwd_706) rfl pX4_sameWithin rfl ⟨rfl, rfl⟩ ⟨Nat.le_of_ble_eq_true rfl, Nat.le_of_ble_eq_true rfl⟩ [] rfl (Nat.le_of_ble_eq_true rfl) (zd tX8_renew 62 rfl) [zi r33] rfl (fun p34 => ?_)
        refine z_if_ne (tgt := 140) C p34.2 (zd tX8_renew 63 rfl) (by decide) h (fun h => ?_) (fun h => ?_)
        · obtain ⟨t35, et35, Rt35, h⟩ := zn_some h
          refine z_iincE C (zd tX8_renew 74 rfl) (by rw [hN]; decide) rfl et35 ?_
          refine z_goto (tgt := 55) C (zd tX8_renew 75 rfl) (by decide) ?_
          refine z_sub (lo' := [some (zr a0), none, some (zr a2), some (zi x3), some (zr 125), none, some (zi t35), none, none]) (zsub_s (zsub_n (zsub_s (zsub_s (zsub_s (zsub_n (zsub_s (zsub_n (zsub_n zsub_0))))))))) ?_
          exact ih v32 a0 a2 x3 t35 _ h p34.1 ga0 ga2 Rx3 Rt35 K1
        · refine z_sub (lo' := [some (zr a0), none, some (zr a2), some (zi x3), some (zr 125), none, some (zi x6), some (zi r15), some (zi r19)]) (zsub_s (zsub_n (zsub_s (zsub_s (zsub_s (zsub_n (zsub_s (zsub_s (zsub_s zsub_0))))))))) ?_
          exact jX8_renew_J122 C hN ho hz hRm _ _ v32 a0 a2 x3 x6 r15 r19 K1 trivial h p34.1 ga0 ga2 Rx3 Rx6 p16.2 p20.2 (fun w z6 hw hvw y6 => ih w a0 a2 x3 z6 _ hw hvw ga0 ga2 Rx3 y6 K1)
set_option maxRecDepth 100000 in
set_option maxHeartbeats 4000000 in
theorem jX8_renew_J18 {E : zE} (C : zC E 137 cX8_renew RX8 vsX8_renew) (hN : zEN E = 9) (ho : zEo E = 0) (hz : zEz E = False) (hRm : zER E = rmX8_renew) {v' : zHp} {r' : Int} (ret : zRet E cX8_renew 0 0 137 none (zV 0 137 v') none v') (v : zHp) (a0 : Nat) (a1 : Nat) (a2 : Nat) (x3 : Int) (h : fX8_renew_J18 v a0 a1 a2 x3 = some (v', r')) (hv : zV 0 137 v) (ga0 : zG E 137 a0 8 14) (ga1 : zG E 137 a1 1 3) (ga2 : zG E 137 a2 7 10) (Rx3 : zR x3) : zX E 0 0 137 v 18 [some (zr a0), some (zr a1), some (zr a2), some (zi x3), some (zr 125), none, none, none, none] [] := by
  unfold fX8_renew_J18 at h
  refine z_aload_n C (zd tX8_renew 10 rfl) rfl ?_
  obtain ⟨u1, eu1, h⟩ := zb_some h
  obtain ⟨q2, h⟩ := zck_some h
  have gu1 := kg_4 ho q2.2
  refine gl_8_10 C ga0 zic_8 (zm zwd_275) (zdyn q2.1 eu1) (zd tX8_renew 11 rfl) ?_
  refine z_astore C (zd tX8_renew 12 rfl) (by rw [hN]; decide) ?_
  refine z_aload_n C (zd tX8_renew 13 rfl) rfl ?_
  refine z_aload_n C (zd tX8_renew 14 rfl) rfl ?_
  obtain ⟨u3, eu3, h⟩ := zb_some h
  obtain ⟨q4, h⟩ := zck_some h
  have gu3 := kg_4 ho q4.2
  refine gl_8_9 C ga0 zic_8 (zm zwd_274) (zdyn q4.1 eu3) (zd tX8_renew 15 rfl) ?_
  obtain ⟨v5, ev5, h⟩ := zb_some h
  have hv5 : zV 0 137 v5 := by rw [ev5]; exact hv.st (zR_ad (by rw [ho]; decide) (by decide) gu3) ga0.1 (Or.inr rfl)
  refine pf_8_10 C ga0 zic_8 (zm zwd_275) ev5 (zd tX8_renew 16 rfl) ?_
  refine z_aload_n C (zd tX8_renew 17 rfl) rfl ?_
  refine z_aload C (zd tX8_renew 18 rfl) rfl ?_
  obtain ⟨v6, ev6, h⟩ := zb_some h
  have hv6 : zV 0 137 v6 := by rw [ev6]; exact hv5.st (zR_ad (by rw [ho]; decide) (by decide) gu1) ga0.1 (Or.inr rfl)
  refine pf_8_9 C ga0 zic_8 (zm zwd_274) ev6 (zd tX8_renew 19 rfl) ?_
  refine z_aload_n C (zd tX8_renew 20 rfl) rfl ?_
  obtain ⟨u7, eu7, h⟩ := zb_some h
  obtain ⟨q8, h⟩ := zck_some h
  have gu7 := kg_4 ho q8.2
  refine gl_8_9 C ga0 zic_8 (zm zwd_274) (zdyn q8.1 eu7) (zd tX8_renew 21 rfl) ?_
  refine z_iconst C (zd tX8_renew 22 rfl) ?_
  obtain ⟨v9, ev9, h⟩ := zb_some h
  have hv9 : zV 0 137 v9 := by rw [ev9]; exact hv6.st (zR_c 0 rfl) gu7.1 (Or.inr rfl)
  refine pf_4_2 C gu7 zic_4 (zm zwd_247) ev9 (zd tX8_renew 23 rfl) ?_
  refine z_aload_n C (zd tX8_renew 24 rfl) rfl ?_
  refine z_aload_n C (zd tX8_renew 25 rfl) rfl ?_
  refine z_aload_n C (zd tX8_renew 26 rfl) rfl ?_
  obtain ⟨v10, r11, cv10, h⟩ := zcl_some h
  refine zc_V C ho hz hRm (qX8_pairUp _ _ _ _ ga0.1 ga1.1 ga2.1 hv9 cv10) ga0 (by decide) rfl (zgV zwd_681 zwd_683 zws_13 zwd_8 zwd_684) rfl pX8_pairUp rfl ⟨rfl, rfl⟩ ⟨Nat.le_of_ble_eq_true rfl, Nat.le_of_ble_eq_true rfl⟩ [] rfl (Nat.le_of_ble_eq_true rfl) (zd tX8_renew 27 rfl) [] rfl (fun p12 => ?_)
  refine z_iconst C (zd tX8_renew 28 rfl) ?_
  refine z_istore C (zd tX8_renew 29 rfl) (by rw [hN]; decide) ?_
  refine z_sub (lo' := [some (zr a0), none, some (zr a2), some (zi x3), some (zr 125), none, some (zi 0), none, none]) (zsub_s (zsub_n (zsub_s (zsub_s (zsub_s (zsub_n (zsub_s (zsub_n (zsub_n zsub_0))))))))) ?_
  obtain ⟨v36, w37, lv36, h⟩ := zl_some h
  refine bX8_renew_L55 C hN ho hz hRm zFU v10 a0 a2 x3 0 _ lv36 p12 ga0 ga2 Rx3 (zR_c 0 rfl) (fun w1 q1 e1 hv36 Rw37 => ?_)
  obtain ⟨rfl, rfl⟩ := zpp e1
  refine z_aload_n C (zd tX8_renew 76 rfl) rfl ?_
  refine z_iconst C (zd tX8_renew 77 rfl) ?_
  obtain ⟨v38, ev38, h⟩ := zb_some h
  have hv38 : zV 0 137 v38 := by rw [ev38]; exact hv36.st (zR_c 0 rfl) ga0.1 (Or.inr rfl)
  refine pf_8_0 C ga0 zic_8 (zm zwd_256) (by decide) ev38 (zd tX8_renew 78 rfl) ?_
  obtain ⟨rfl, rfl⟩ := zpi h
  exact ret.2.1 _ _ hv38 rfl rfl (zd tX8_renew 79 rfl)
set_option maxRecDepth 100000 in
set_option maxHeartbeats 4000000 in
theorem qX8_renew (l : Launch) (D : va_G) (ids : Nat → ClassId) (b : Nat) {a0 : Nat} (k0 : zK a0 = (8, 14)) {a1 : Nat} (k1 : zK a1 = (1, 3)) {a2 : Nat} (k2 : zK a2 = (7, 10)) {x3 : Int} (Rx3 : zR x3) {v v' : zHp} {r' : Int} (hv : zV 0 137 v) (h : fX8_renew v a0 a1 a2 x3 = some (v', r')) : zCT l yX8_renew vsX8_renew rmX8_renew D ids b 0 False 137 [zr a0, zr a1, zr a2, zi x3, zr 125] v 137 (zV 0 137 v') none v' 0 0 := by
  refine zMet (own := RX8) (by decide +kernel) (show vsX8_renew = _ from rfl) (Nat.le_of_ble_eq_true rfl) rfl ?_
  intro E hl hRm hD hids hb ho hz hN C hname ret
  subst hl hD hids hb
  have ga0 := kg_8 ho k0
  have ga1 := kg_1 ho k1
  have ga2 := kg_7 ho k2
  unfold fX8_renew at h
  refine z_iload_n C (zd tX8_renew 0 rfl) rfl ?_
  refine z_aload_n C (zd tX8_renew 1 rfl) rfl ?_
  refine gf_8_13 C ga0 zic_8 (zm zwd_278) (zd tX8_renew 2 rfl) ?_
  refine z_icmp_eq (tgt := 18) C Rx3 (hv.1 _ _) (zd tX8_renew 3 rfl) (by decide) h (fun h => ?_) (fun h => ?_)
  · refine z_sub (lo' := [some (zr a0), some (zr a1), some (zr a2), some (zi x3), some (zr 125), none, none, none, none]) (zsub_s (zsub_s (zsub_s (zsub_s (zsub_s (zsub_n (zsub_n (zsub_n (zsub_n zsub_0))))))))) ?_
    exact jX8_renew_J18 C hN ho hz hRm ret v a0 a1 a2 x3 h hv ga0 ga1 ga2 Rx3
  · refine z_aload_n C (zd tX8_renew 4 rfl) rfl ?_
    refine z_iconst C (zd tX8_renew 5 rfl) ?_
    obtain ⟨v39, ev39, h⟩ := zb_some h
    have hv39 : zV 0 137 v39 := by rw [ev39]; exact hv.st (zR_c 0 rfl) ga0.1 (Or.inr rfl)
    refine pf_8_12 C ga0 zic_8 (zm zwd_277) ev39 (zd tX8_renew 6 rfl) ?_
    refine z_aload_n C (zd tX8_renew 7 rfl) rfl ?_
    refine z_iload_n C (zd tX8_renew 8 rfl) rfl ?_
    obtain ⟨v40, ev40, h⟩ := zb_some h
    have hv40 : zV 0 137 v40 := by rw [ev40]; exact hv39.st Rx3 ga0.1 (Or.inr rfl)
    refine pf_8_13 C ga0 zic_8 (zm zwd_278) ev40 (zd tX8_renew 9 rfl) ?_
    refine z_sub (lo' := [some (zr a0), some (zr a1), some (zr a2), some (zi x3), some (zr 125), none, none, none, none]) (zsub_s (zsub_s (zsub_s (zsub_s (zsub_s (zsub_n (zsub_n (zsub_n (zsub_n zsub_0))))))))) ?_
    exact jX8_renew_J18 C hN ho hz hRm ret v40 a0 a1 a2 x3 h hv40 ga0 ga1 ga2 Rx3
noncomputable def vsX11_sheetOf : List Cond := .code yX11_sheetOf cX11_sheetOf 3 (some (.object "PremiumHours$Sheet")) :: zbig
abbrev rmX11_sheetOf : Room := { frames := 6, cells := 0, slots := 0, locals := 164 }
theorem pX11_sheetOf : yX11_sheetOf.cls = RX11 ∧ yX11_sheetOf.cls ≠ "java/lang/invoke/MethodHandle" ∧ yX11_sheetOf.cls ≠ "java/lang/invoke/VarHandle" ∧ (parseMethodDescriptor yX11_sheetOf.desc).map (fun d => d.parameters.length) = some 1 := by decide +kernel
set_option maxRecDepth 100000 in
set_option maxHeartbeats 4000000 in
theorem qX11_sheetOf (l : Launch) (D : va_G) (ids : Nat → ClassId) (b : Nat) {x1 : Int} (Rx1 : zR x1) {v v' : zHp} {r' : Int} (hv : zV 0 137 v) (h : fX11_sheetOf v x1 = some (v', r')) : zCT l yX11_sheetOf vsX11_sheetOf rmX11_sheetOf D ids b 0 False 137 [zr 0, zi x1] v 137 (zV 0 137 v' ∧ 0 ≤ r' ∧ zK (r').toNat = (8, 14)) (some (zr (r').toNat)) v' 0 0 := by
  refine zMet (own := RX11) (by decide +kernel) (show vsX11_sheetOf = _ from rfl) (Nat.le_of_ble_eq_true rfl) rfl ?_
  intro E hl hRm hD hids hb ho hz hN C hname ret
  subst hl hD hids hb
  unfold fX11_sheetOf at h
  refine z_aload_n C (zd tX11_sheetOf 0 rfl) rfl ?_
  refine gl_11_5 (t := 29) C (lg_0 ho) zic_11 (zm zwd_405) (vl_11_5 ho hv (lg_0 ho)) (zd tX11_sheetOf 1 rfl) ?_
  refine z_iload_n C (zd tX11_sheetOf 2 rfl) rfl ?_
  obtain ⟨q1, h⟩ := zck_some h
  obtain ⟨u2, eu2, h⟩ := zb_some h
  have gu2 := ge_Sheet ho (lg_29 ho) q1 eu2
  refine ra_Sheet C ho hv (lg_29 ho) q1 eu2 (zd tX11_sheetOf 3 rfl) ?_
  refine z_astore_n C (zd tX11_sheetOf 4 rfl) (by rw [hN]; decide) ?_
  refine z_aload_n C (zd tX11_sheetOf 5 rfl) rfl ?_
  refine gf_8_0 C gu2 zic_8 (zm zwd_257) (zd tX11_sheetOf 6 rfl) ?_
  refine z_if_eq (tgt := 35) C (hv.1 _ _) (zd tX11_sheetOf 7 rfl) (by decide) h (fun h => ?_) (fun h => ?_)
  · refine z_aload_n C (zd tX11_sheetOf 19 rfl) rfl ?_
    obtain ⟨rfl, rfl⟩ := zpi h
    exact ret.2.2 _ _ _ _ ⟨hv, Int.natCast_nonneg _, gu2.1⟩ rfl rfl (zd tX11_sheetOf 20 rfl)
  · refine z_aload_n C (zd tX11_sheetOf 8 rfl) rfl ?_
    refine z_aload_n C (zd tX11_sheetOf 9 rfl) rfl ?_
    refine gl_11_4 (t := 28) C (lg_0 ho) zic_11 (zm zwd_404) (vl_11_4 ho hv (lg_0 ho)) (zd tX11_sheetOf 10 rfl) ?_
    refine z_iload_n C (zd tX11_sheetOf 11 rfl) rfl ?_
    obtain ⟨q3, h⟩ := zck_some h
    obtain ⟨u4, eu4, h⟩ := zb_some h
    have gu4 := ge_Card ho (lg_28 ho) q3 eu4
    refine ra_Card C ho hv (lg_28 ho) q3 eu4 (zd tX11_sheetOf 12 rfl) ?_
    refine z_aload_n C (zd tX11_sheetOf 13 rfl) rfl ?_
    obtain ⟨u5, eu5, h⟩ := zb_some h
    obtain ⟨q6, h⟩ := zck_some h
    have gu5 := kg_7 ho q6.2
    refine gl_11_2 C (lg_0 ho) zic_11 (zm zwd_402) (zdyn q6.1 eu5) (zd tX11_sheetOf 14 rfl) ?_
    refine z_sipush C (by decide) (zd tX11_sheetOf 15 rfl) ?_
    refine z_aload_n C (zd tX11_sheetOf 16 rfl) rfl ?_
    refine gl_11_9 (t := 125) C (lg_0 ho) zic_11 (zm zwd_409) (vl_11_9 ho hv (lg_0 ho)) (zd tX11_sheetOf 17 rfl) ?_
    obtain ⟨v7, r8, cv7, h⟩ := zcl_some h
    refine zc_V C ho hz hRm (qX8_renew _ _ _ _ gu2.1 gu4.1 gu5.1 (zR_c 255 rfl) hv cv7) gu2 (by decide) rfl (zgV zwd_677 zwd_678 zwd_679 zwd_8 zwd_680) rfl pX8_renew rfl ⟨rfl, rfl⟩ ⟨Nat.le_of_ble_eq_true rfl, Nat.le_of_ble_eq_true rfl⟩ [] rfl (Nat.le_of_ble_eq_true rfl) (zd tX11_sheetOf 18 rfl) [] rfl (fun p9 => ?_)
    refine z_aload_n C (zd tX11_sheetOf 19 rfl) rfl ?_
    obtain ⟨rfl, rfl⟩ := zpi h
    exact ret.2.2 _ _ _ _ ⟨p9, Int.natCast_nonneg _, gu2.1⟩ rfl rfl (zd tX11_sheetOf 20 rfl)
noncomputable def vsX11_countDays : List Cond := .code yX11_countDays cX11_countDays 9 (some .int) :: zbig
abbrev rmX11_countDays : Room := { frames := 7, cells := 0, slots := 0, locals := 186 }
theorem pX11_countDays : yX11_countDays.cls = RX11 ∧ yX11_countDays.cls ≠ "java/lang/invoke/MethodHandle" ∧ yX11_countDays.cls ≠ "java/lang/invoke/VarHandle" ∧ (parseMethodDescriptor yX11_countDays.desc).map (fun d => d.parameters.length) = some 4 := by decide +kernel
set_option maxRecDepth 100000 in
set_option maxHeartbeats 4000000 in
theorem bX11_countDays_L70 {E : zE} (C : zC E 137 cX11_countDays RX11 vsX11_countDays) (hN : zEN E = 9) (ho : zEo E = 0) (hz : zEz E = False) (hRm : zER E = rmX11_countDays) : ∀ (fu : Nat) (v : zHp) (x4 : Int) (a5 : Nat) (x6 : Int) (x7 : Int) (x8 : Int) (res : (zHp × (Int))), fX11_countDays_L70 fu v x4 a5 x6 x7 x8 = some res → zV 0 137 v → zR x4 → zG E 137 a5 20 2692 → zR x6 → zR x7 → zR x8 → (∀ (w : zHp) (q : Int), res = (w, q) → zV 0 137 w → zR q → zX E 0 0 137 w 116 [none, none, none, none, none, none, none, some (zi q), none] []) → zX E 0 0 137 v 70 [none, none, none, none, some (zi x4), some (zr a5), some (zi x6), some (zi x7), some (zi x8)] [] := by
  intro fu
  induction fu with
  | zero =>
    intro v _ _ _ _ _ res h
    cases h
  | succ fu ih =>
    intro v x4 a5 x6 x7 x8 res h hv Rx4 ga5 Rx6 Rx7 Rx8 K1
    rw [fX11_countDays_L70.eq_2] at h
    refine z_iload C (zd tX11_countDays 34 rfl) rfl ?_
    refine z_iload C (zd tX11_countDays 35 rfl) rfl ?_
    refine z_icmp_ge (tgt := 116) C Rx8 Rx6 (zd tX11_countDays 36 rfl) (by decide) h (fun h => ?_) (fun h => ?_)
    · refine z_sub (lo' := [none, none, none, none, none, none, none, some (zi x7), none]) (zsub_n (zsub_n (zsub_n (zsub_n (zsub_n (zsub_n (zsub_n (zsub_s (zsub_n zsub_0))))))))) ?_
      exact K1 _ _ (Option.some.inj h).symm hv Rx7
    · refine z_iload C (zd tX11_countDays 37 rfl) rfl ?_
      refine z_bipush C (by decide) (zd tX11_countDays 38 rfl) ?_
      refine z_icmp_ne (tgt := 97) C Rx4 (zR_c (-2) rfl) (zd tX11_countDays 39 rfl) (by decide) h (fun h => ?_) (fun h => ?_)
      · refine z_aload C (zd tX11_countDays 46 rfl) rfl ?_
        refine z_iload C (zd tX11_countDays 47 rfl) rfl ?_
        obtain ⟨q18, h⟩ := zck_some h
        refine za_iald C ga5 rfl (by decide) q18 (zd tX11_countDays 48 rfl) ?_
        refine z_iload C (zd tX11_countDays 49 rfl) rfl ?_
        refine z_icmp_ne (tgt := 110) C (hv.1 _ _) Rx4 (zd tX11_countDays 50 rfl) (by decide) h (fun h => ?_) (fun h => ?_)
        · obtain ⟨t19, et19, Rt19, h⟩ := zn_some h
          refine z_iincE C (zd tX11_countDays 52 rfl) (by rw [hN]; decide) rfl et19 ?_
          refine z_goto (tgt := 70) C (zd tX11_countDays 53 rfl) (by decide) ?_
          refine z_sub (lo' := [none, none, none, none, some (zi x4), some (zr a5), some (zi x6), some (zi x7), some (zi t19)]) (zsub_n (zsub_n (zsub_n (zsub_n (zsub_s (zsub_s (zsub_s (zsub_s (zsub_s zsub_0))))))))) ?_
          exact ih v x4 a5 x6 x7 t19 _ h hv Rx4 ga5 Rx6 Rx7 Rt19 K1
        · obtain ⟨t20, et20, Rt20, h⟩ := zn_some h
          refine z_iincE C (zd tX11_countDays 51 rfl) (by rw [hN]; decide) rfl et20 ?_
          obtain ⟨t21, et21, Rt21, h⟩ := zn_some h
          refine z_iincE C (zd tX11_countDays 52 rfl) (by rw [hN]; decide) rfl et21 ?_
          refine z_goto (tgt := 70) C (zd tX11_countDays 53 rfl) (by decide) ?_
          refine z_sub (lo' := [none, none, none, none, some (zi x4), some (zr a5), some (zi x6), some (zi t20), some (zi t21)]) (zsub_n (zsub_n (zsub_n (zsub_n (zsub_s (zsub_s (zsub_s (zsub_s (zsub_s zsub_0))))))))) ?_
          exact ih v x4 a5 x6 t20 t21 _ h hv Rx4 ga5 Rx6 Rt20 Rt21 K1
      · refine z_aload C (zd tX11_countDays 40 rfl) rfl ?_
        refine z_iload C (zd tX11_countDays 41 rfl) rfl ?_
        obtain ⟨q22, h⟩ := zck_some h
        refine za_iald C ga5 rfl (by decide) q22 (zd tX11_countDays 42 rfl) ?_
        refine z_bipush C (by decide) (zd tX11_countDays 43 rfl) ?_
        refine z_icmp_eq (tgt := 110) C (hv.1 _ _) (zR_c (-2) rfl) (zd tX11_countDays 44 rfl) (by decide) h (fun h => ?_) (fun h => ?_)
        · obtain ⟨t23, et23, Rt23, h⟩ := zn_some h
          refine z_iincE C (zd tX11_countDays 52 rfl) (by rw [hN]; decide) rfl et23 ?_
          refine z_goto (tgt := 70) C (zd tX11_countDays 53 rfl) (by decide) ?_
          refine z_sub (lo' := [none, none, none, none, some (zi x4), some (zr a5), some (zi x6), some (zi x7), some (zi t23)]) (zsub_n (zsub_n (zsub_n (zsub_n (zsub_s (zsub_s (zsub_s (zsub_s (zsub_s zsub_0))))))))) ?_
          exact ih v x4 a5 x6 x7 t23 _ h hv Rx4 ga5 Rx6 Rx7 Rt23 K1
        · refine z_goto (tgt := 107) C (zd tX11_countDays 45 rfl) (by decide) ?_
          obtain ⟨t24, et24, Rt24, h⟩ := zn_some h
          refine z_iincE C (zd tX11_countDays 51 rfl) (by rw [hN]; decide) rfl et24 ?_
          obtain ⟨t25, et25, Rt25, h⟩ := zn_some h
          refine z_iincE C (zd tX11_countDays 52 rfl) (by rw [hN]; decide) rfl et25 ?_
          refine z_goto (tgt := 70) C (zd tX11_countDays 53 rfl) (by decide) ?_
          refine z_sub (lo' := [none, none, none, none, some (zi x4), some (zr a5), some (zi x6), some (zi t24), some (zi t25)]) (zsub_n (zsub_n (zsub_n (zsub_n (zsub_s (zsub_s (zsub_s (zsub_s (zsub_s zsub_0))))))))) ?_
          exact ih v x4 a5 x6 t24 t25 _ h hv Rx4 ga5 Rx6 Rt24 Rt25 K1
set_option maxRecDepth 100000 in
set_option maxHeartbeats 4000000 in
theorem jX11_countDays_J31 {E : zE} (C : zC E 137 cX11_countDays RX11 vsX11_countDays) (hN : zEN E = 9) (ho : zEo E = 0) (hz : zEz E = False) (hRm : zER E = rmX11_countDays) {v' : zHp} {r' : Int} (ret : zRet E cX11_countDays 0 0 137 (some .int) (zV 0 137 v' ∧ zR r') (some (zi r')) v') (v : zHp) (x1 : Int) (x2 : Int) (x3 : Int) (x4 : Int) (h : fX11_countDays_J31 v x1 x2 x3 x4 = some (v', r')) (hv : zV 0 137 v) (Rx1 : zR x1) (Rx2 : zR x2) (Rx3 : zR x3) (Rx4 : zR x4) : zX E 0 0 137 v 31 [some (zr 0), some (zi x1), some (zi x2), some (zi x3), some (zi x4), none, none, none, none] [] := by
  unfold fX11_countDays_J31 at h
  refine z_aload_n C (zd tX11_countDays 15 rfl) rfl ?_
  refine z_iload_n C (zd tX11_countDays 16 rfl) rfl ?_
  obtain ⟨v4, r5, cv4, h⟩ := zcl_some h
  refine zc_V C ho hz hRm (qX11_sheetOf _ _ _ _ Rx1 hv cv4) (lg_0 ho) (by decide) rfl (zgV zwd_673 zwd_675 zws_12 zwd_1 zwd_676) rfl pX11_sheetOf rfl ⟨rfl, rfl⟩ ⟨Nat.le_of_ble_eq_true rfl, Nat.le_of_ble_eq_true rfl⟩ [] rfl (Nat.le_of_ble_eq_true rfl) (zd tX11_countDays 17 rfl) [zr (r5).toNat] rfl (fun p6 => ?_)
  obtain ⟨u7, eu7, h⟩ := zb_some h
  have gu7 := kg_8 ho (show zK u7 = _ by rw [eu7]; exact p6.2.2)
  refine z_r0 eu7.symm ?_
  refine gl_8_6 C gu7 zic_8 (zm zwd_269) (vl_8_6 ho p6.1 gu7) (zd tX11_countDays 18 rfl) ?_
  refine z_astore C (zd tX11_countDays 19 rfl) (by rw [hN]; decide) ?_
  refine z_aload_n C (zd tX11_countDays 20 rfl) rfl ?_
  obtain ⟨u8, eu8, h⟩ := zb_some h
  obtain ⟨q9, h⟩ := zck_some h
  have gu8 := kg_7 ho q9.2
  refine gl_11_2 C (lg_0 ho) zic_11 (zm zwd_402) (zdyn q9.1 eu8) (zd tX11_countDays 21 rfl) ?_
  refine gl_7_0 C gu8 zic_7 (zm zwd_151) (vl_7_0 ho p6.1 gu8) (zd tX11_countDays 22 rfl) ?_
  refine z_iload_n C (zd tX11_countDays 23 rfl) rfl ?_
  obtain ⟨v10, r11, cv10, h⟩ := zcl_some h
  refine zc_V C ho hz hRm (qX2_quartersAhead _ _ _ _ (lk_7_0 ho gu8).1 Rx3 p6.1 cv10) (lk_7_0 ho gu8) (by decide) rfl (zgV zwd_826 zwd_694 zwd_695 zwd_5 zwd_696) rfl pX2_quartersAhead rfl ⟨rfl, rfl⟩ ⟨Nat.le_of_ble_eq_true rfl, Nat.le_of_ble_eq_true rfl⟩ [] rfl (Nat.le_of_ble_eq_true rfl) (zd tX11_countDays 24 rfl) [zi r11] rfl (fun p12 => ?_)
  refine z_istore C (zd tX11_countDays 25 rfl) (by rw [hN]; decide) ?_
  refine z_iconst C (zd tX11_countDays 26 rfl) ?_
  refine z_istore C (zd tX11_countDays 27 rfl) (by rw [hN]; decide) ?_
  refine z_aload_n C (zd tX11_countDays 28 rfl) rfl ?_
  obtain ⟨u13, eu13, h⟩ := zb_some h
  obtain ⟨q14, h⟩ := zck_some h
  have gu13 := kg_7 ho q14.2
  refine gl_11_2 C (lg_0 ho) zic_11 (zm zwd_402) (zdyn q14.1 eu13) (zd tX11_countDays 29 rfl) ?_
  refine gl_7_0 C gu13 zic_7 (zm zwd_151) (vl_7_0 ho p12.1 gu13) (zd tX11_countDays 30 rfl) ?_
  refine z_iload_n C (zd tX11_countDays 31 rfl) rfl ?_
  obtain ⟨v15, r16, cv15, h⟩ := zcl_some h
  refine zc_V C ho hz hRm (qX2_quartersAhead _ _ _ _ (lk_7_0 ho gu13).1 Rx2 p12.1 cv15) (lk_7_0 ho gu13) (by decide) rfl (zgV zwd_826 zwd_694 zwd_695 zwd_5 zwd_696) rfl pX2_quartersAhead rfl ⟨rfl, rfl⟩ ⟨Nat.le_of_ble_eq_true rfl, Nat.le_of_ble_eq_true rfl⟩ [] rfl (Nat.le_of_ble_eq_true rfl) (zd tX11_countDays 32 rfl) [zi r16] rfl (fun p17 => ?_)
  refine z_istore C (zd tX11_countDays 33 rfl) (by rw [hN]; decide) ?_
  refine z_sub (lo' := [none, none, none, none, some (zi x4), some (zr (u7 + 5)), some (zi r11), some (zi 0), some (zi r16)]) (zsub_n (zsub_n (zsub_n (zsub_n (zsub_s (zsub_s (zsub_s (zsub_s (zsub_s zsub_0))))))))) ?_
  obtain ⟨v26, w27, lv26, h⟩ := zl_some h
  refine bX11_countDays_L70 C hN ho hz hRm zFU v15 x4 (u7 + 5) r11 0 r16 _ lv26 p17.1 Rx4 (lk_8_6 ho gu7) p12.2 (zR_c 0 rfl) p17.2 (fun w1 q1 e1 hv26 Rw27 => ?_)
  obtain ⟨rfl, rfl⟩ := zpp e1
  refine z_iload C (zd tX11_countDays 54 rfl) rfl ?_
  obtain ⟨rfl, rfl⟩ := zpi h
  exact ret.1 _ _ _ _ ⟨hv26, Rw27⟩ rfl rfl rfl (zd tX11_countDays 55 rfl)
set_option maxRecDepth 100000 in
set_option maxHeartbeats 4000000 in
theorem qX11_countDays (l : Launch) (D : va_G) (ids : Nat → ClassId) (b : Nat) {x1 : Int} (Rx1 : zR x1) {x2 : Int} (Rx2 : zR x2) {x3 : Int} (Rx3 : zR x3) {x4 : Int} (Rx4 : zR x4) {v v' : zHp} {r' : Int} (hv : zV 0 137 v) (h : fX11_countDays v x1 x2 x3 x4 = some (v', r')) : zCT l yX11_countDays vsX11_countDays rmX11_countDays D ids b 0 False 137 [zr 0, zi x1, zi x2, zi x3, zi x4] v 137 (zV 0 137 v' ∧ zR r') (some (zi r')) v' 0 0 := by
  refine zMet (own := RX11) (by decide +kernel) (show vsX11_countDays = _ from rfl) (Nat.le_of_ble_eq_true rfl) rfl ?_
  intro E hl hRm hD hids hb ho hz hN C hname ret
  subst hl hD hids hb
  unfold fX11_countDays at h
  refine z_iload_n C (zd tX11_countDays 0 rfl) rfl ?_
  obtain ⟨v1, r2, cv1, h⟩ := zcl_some h
  refine zc_S C ho hz hRm (qX11_isWorker _ _ _ _ Rx1 hv cv1) (zgS zwd_633 zwd_634 zwd_1 zwd_635) rfl pX11_isWorker rfl ⟨rfl, rfl⟩ ⟨Nat.le_of_ble_eq_true rfl, Nat.le_of_ble_eq_true rfl⟩ [] rfl (Nat.le_of_ble_eq_true rfl) (zd tX11_countDays 1 rfl) [zi r2] rfl (fun p3 => ?_)
  refine z_if_eq (tgt := 29) C p3.2 (zd tX11_countDays 2 rfl) (by decide) h (fun h => ?_) (fun h => ?_)
  · refine z_iconst C (zd tX11_countDays 13 rfl) ?_
    obtain ⟨rfl, rfl⟩ := zpi h
    exact ret.1 _ _ _ _ ⟨p3.1, (zR_c (-1) rfl)⟩ rfl rfl rfl (zd tX11_countDays 14 rfl)
  · refine z_iload C (zd tX11_countDays 3 rfl) rfl ?_
    refine z_bipush C (by decide) (zd tX11_countDays 4 rfl) ?_
    refine z_icmp_eq (tgt := 31) C Rx4 (zR_c (-2) rfl) (zd tX11_countDays 5 rfl) (by decide) h (fun h => ?_) (fun h => ?_)
    · refine z_sub (lo' := [some (zr 0), some (zi x1), some (zi x2), some (zi x3), some (zi x4), none, none, none, none]) (zsub_s (zsub_s (zsub_s (zsub_s (zsub_s (zsub_n (zsub_n (zsub_n (zsub_n zsub_0))))))))) ?_
      exact jX11_countDays_J31 C hN ho hz hRm ret v1 x1 x2 x3 x4 h p3.1 Rx1 Rx2 Rx3 Rx4
    · refine z_iload C (zd tX11_countDays 6 rfl) rfl ?_
      refine z_iconst C (zd tX11_countDays 7 rfl) ?_
      refine z_icmp_eq (tgt := 31) C Rx4 (zR_c (-1) rfl) (zd tX11_countDays 8 rfl) (by decide) h (fun h => ?_) (fun h => ?_)
      · refine z_sub (lo' := [some (zr 0), some (zi x1), some (zi x2), some (zi x3), some (zi x4), none, none, none, none]) (zsub_s (zsub_s (zsub_s (zsub_s (zsub_s (zsub_n (zsub_n (zsub_n (zsub_n zsub_0))))))))) ?_
        exact jX11_countDays_J31 C hN ho hz hRm ret v1 x1 x2 x3 x4 h p3.1 Rx1 Rx2 Rx3 Rx4
      · refine z_aload_n C (zd tX11_countDays 9 rfl) rfl ?_
        refine z_iload C (zd tX11_countDays 10 rfl) rfl ?_
        obtain ⟨v28, r29, cv28, h⟩ := zcl_some h
        refine zc_V C ho hz hRm (qX11_isPremium _ _ _ _ Rx4 p3.1 cv28) (lg_0 ho) (by decide) rfl (zgV zwd_822 zwd_824 zws_26 zwd_1 zwd_825) rfl pX11_isPremium rfl ⟨rfl, rfl⟩ ⟨Nat.le_of_ble_eq_true rfl, Nat.le_of_ble_eq_true rfl⟩ [] rfl (Nat.le_of_ble_eq_true rfl) (zd tX11_countDays 11 rfl) [zi r29] rfl (fun p30 => ?_)
        refine z_if_ne (tgt := 31) C p30.2 (zd tX11_countDays 12 rfl) (by decide) h (fun h => ?_) (fun h => ?_)
        · refine z_sub (lo' := [some (zr 0), some (zi x1), some (zi x2), some (zi x3), some (zi x4), none, none, none, none]) (zsub_s (zsub_s (zsub_s (zsub_s (zsub_s (zsub_n (zsub_n (zsub_n (zsub_n zsub_0))))))))) ?_
          exact jX11_countDays_J31 C hN ho hz hRm ret v28 x1 x2 x3 x4 h p30.1 Rx1 Rx2 Rx3 Rx4
        · refine z_iconst C (zd tX11_countDays 13 rfl) ?_
          obtain ⟨rfl, rfl⟩ := zpi h
          exact ret.1 _ _ _ _ ⟨p30.1, (zR_c (-1) rfl)⟩ rfl rfl rfl (zd tX11_countDays 14 rfl)
noncomputable def vsX11_isWeek : List Cond := .code yX11_isWeek cX11_isWeek 1 (some .boolean) :: zbig
abbrev rmX11_isWeek : Room := { frames := 0, cells := 0, slots := 0, locals := 0 }
theorem pX11_isWeek : yX11_isWeek.cls = RX11 ∧ yX11_isWeek.cls ≠ "java/lang/invoke/MethodHandle" ∧ yX11_isWeek.cls ≠ "java/lang/invoke/VarHandle" ∧ (parseMethodDescriptor yX11_isWeek.desc).map (fun d => d.parameters.length) = some 1 := by decide +kernel
set_option maxRecDepth 100000 in
set_option maxHeartbeats 4000000 in
theorem qX11_isWeek (l : Launch) (D : va_G) (ids : Nat → ClassId) (b : Nat) {x0 : Int} (Rx0 : zR x0) {v v' : zHp} {r' : Int} (hv : zV 0 137 v) (h : fX11_isWeek v x0 = some (v', r')) : zCT l yX11_isWeek vsX11_isWeek rmX11_isWeek D ids b 0 False 137 [zi x0] v 137 (zV 0 137 v' ∧ zR r') (some (zi r')) v' 0 0 := by
  refine zMet (own := RX11) (by decide +kernel) (show vsX11_isWeek = _ from rfl) (Nat.le_of_ble_eq_true rfl) rfl ?_
  intro E hl hRm hD hids hb ho hz hN C hname ret
  subst hl hD hids hb
  unfold fX11_isWeek at h
  refine z_iload_n C (zd tX11_isWeek 0 rfl) rfl ?_
  refine z_if_lt (tgt := 13) C Rx0 (zd tX11_isWeek 1 rfl) (by decide) h (fun h => ?_) (fun h => ?_)
  · refine z_iconst C (zd tX11_isWeek 7 rfl) ?_
    obtain ⟨rfl, rfl⟩ := zpi h
    exact ret.1 _ _ _ _ ⟨hv, (zR_c 0 rfl)⟩ rfl rfl (by decide) (zd tX11_isWeek 8 rfl)
  · refine z_iload_n C (zd tX11_isWeek 2 rfl) rfl ?_
    refine z_iconst C (zd tX11_isWeek 3 rfl) ?_
    refine z_icmp_ge (tgt := 13) C Rx0 (zR_c 4 rfl) (zd tX11_isWeek 4 rfl) (by decide) h (fun h => ?_) (fun h => ?_)
    · refine z_iconst C (zd tX11_isWeek 7 rfl) ?_
      obtain ⟨rfl, rfl⟩ := zpi h
      exact ret.1 _ _ _ _ ⟨hv, (zR_c 0 rfl)⟩ rfl rfl (by decide) (zd tX11_isWeek 8 rfl)
    · refine z_iconst C (zd tX11_isWeek 5 rfl) ?_
      refine z_goto (tgt := 14) C (zd tX11_isWeek 6 rfl) (by decide) ?_
      obtain ⟨rfl, rfl⟩ := zpi h
      exact ret.1 _ _ _ _ ⟨hv, (zR_c 1 rfl)⟩ rfl rfl (by decide) (zd tX11_isWeek 8 rfl)
noncomputable def vsX11_counted : List Cond := .code yX11_counted cX11_counted 9 (some .int) :: zbig
abbrev rmX11_counted : Room := { frames := 7, cells := 0, slots := 0, locals := 186 }
theorem pX11_counted : yX11_counted.cls = RX11 ∧ yX11_counted.cls ≠ "java/lang/invoke/MethodHandle" ∧ yX11_counted.cls ≠ "java/lang/invoke/VarHandle" ∧ (parseMethodDescriptor yX11_counted.desc).map (fun d => d.parameters.length) = some 3 := by decide +kernel
set_option maxRecDepth 100000 in
set_option maxHeartbeats 4000000 in
theorem bX11_counted_L80 {E : zE} (C : zC E 137 cX11_counted RX11 vsX11_counted) (hN : zEN E = 9) (ho : zEo E = 0) (hz : zEz E = False) (hRm : zER E = rmX11_counted) : ∀ (fu : Nat) (v : zHp) (a5 : Nat) (x6 : Int) (x7 : Int) (x8 : Int) (res : (zHp × (Int))), fX11_counted_L80 fu v a5 x6 x7 x8 = some res → zV 0 137 v → zG E 137 a5 20 2692 → zR x6 → zR x7 → zR x8 → (∀ (w : zHp) (q : Int), res = (w, q) → zV 0 137 w → zR q → zX E 0 0 137 w 121 [none, none, none, none, none, none, none, some (zi q), none] []) → zX E 0 0 137 v 80 [some (zr 0), none, none, none, none, some (zr a5), some (zi x6), some (zi x7), some (zi x8)] [] := by
  intro fu
  induction fu with
  | zero =>
    intro v _ _ _ _ res h
    cases h
  | succ fu ih =>
    intro v a5 x6 x7 x8 res h hv ga5 Rx6 Rx7 Rx8 K1
    rw [fX11_counted_L80.eq_2] at h
    refine z_iload C (zd tX11_counted 40 rfl) rfl ?_
    refine z_iload C (zd tX11_counted 41 rfl) rfl ?_
    refine z_icmp_ge (tgt := 121) C Rx8 Rx6 (zd tX11_counted 42 rfl) (by decide) h (fun h => ?_) (fun h => ?_)
    · refine z_sub (lo' := [none, none, none, none, none, none, none, some (zi x7), none]) (zsub_n (zsub_n (zsub_n (zsub_n (zsub_n (zsub_n (zsub_n (zsub_s (zsub_n zsub_0))))))))) ?_
      exact K1 _ _ (Option.some.inj h).symm hv Rx7
    · refine z_aload C (zd tX11_counted 43 rfl) rfl ?_
      refine z_iload C (zd tX11_counted 44 rfl) rfl ?_
      obtain ⟨q23, h⟩ := zck_some h
      refine za_iald C ga5 rfl (by decide) q23 (zd tX11_counted 45 rfl) ?_
      refine z_bipush C (by decide) (zd tX11_counted 46 rfl) ?_
      refine z_icmp_eq (tgt := 115) C (hv.1 _ _) (zR_c (-2) rfl) (zd tX11_counted 47 rfl) (by decide) h (fun h => ?_) (fun h => ?_)
      · obtain ⟨t24, et24, Rt24, h⟩ := zn_some h
        refine z_iincE C (zd tX11_counted 56 rfl) (by rw [hN]; decide) rfl et24 ?_
        refine z_goto (tgt := 80) C (zd tX11_counted 57 rfl) (by decide) ?_
        refine z_sub (lo' := [some (zr 0), none, none, none, none, some (zr a5), some (zi x6), some (zi x7), some (zi t24)]) (zsub_s (zsub_n (zsub_n (zsub_n (zsub_n (zsub_s (zsub_s (zsub_s (zsub_s zsub_0))))))))) ?_
        exact ih v a5 x6 x7 t24 _ h hv ga5 Rx6 Rx7 Rt24 K1
      · refine z_aload_n C (zd tX11_counted 48 rfl) rfl ?_
        obtain ⟨u25, eu25, h⟩ := zb_some h
        obtain ⟨q26, h⟩ := zck_some h
        have gu25 := kg_7 ho q26.2
        refine gl_11_2 C (lg_0 ho) zic_11 (zm zwd_402) (zdyn q26.1 eu25) (zd tX11_counted 49 rfl) ?_
        refine z_aload C (zd tX11_counted 50 rfl) rfl ?_
        refine z_iload C (zd tX11_counted 51 rfl) rfl ?_
        obtain ⟨q27, h⟩ := zck_some h
        refine za_iald C ga5 rfl (by decide) q27 (zd tX11_counted 52 rfl) ?_
        obtain ⟨v28, r29, cv28, h⟩ := zcl_some h
        refine zc_V C ho hz hRm (qX7_countsUnder _ _ _ _ gu25.1 (hv.1 _ _) hv cv28) gu25 (by decide) rfl (zgV zwd_838 zwd_765 zwd_766 zwd_4 zwd_767) rfl pX7_countsUnder rfl ⟨rfl, rfl⟩ ⟨Nat.le_of_ble_eq_true rfl, Nat.le_of_ble_eq_true rfl⟩ [] rfl (Nat.le_of_ble_eq_true rfl) (zd tX11_counted 53 rfl) [zi r29] rfl (fun p30 => ?_)
        refine z_if_eq (tgt := 115) C p30.2 (zd tX11_counted 54 rfl) (by decide) h (fun h => ?_) (fun h => ?_)
        · obtain ⟨t31, et31, Rt31, h⟩ := zn_some h
          refine z_iincE C (zd tX11_counted 56 rfl) (by rw [hN]; decide) rfl et31 ?_
          refine z_goto (tgt := 80) C (zd tX11_counted 57 rfl) (by decide) ?_
          refine z_sub (lo' := [some (zr 0), none, none, none, none, some (zr a5), some (zi x6), some (zi x7), some (zi t31)]) (zsub_s (zsub_n (zsub_n (zsub_n (zsub_n (zsub_s (zsub_s (zsub_s (zsub_s zsub_0))))))))) ?_
          exact ih v28 a5 x6 x7 t31 _ h p30.1 ga5 Rx6 Rx7 Rt31 K1
        · obtain ⟨t32, et32, Rt32, h⟩ := zn_some h
          refine z_iincE C (zd tX11_counted 55 rfl) (by rw [hN]; decide) rfl et32 ?_
          obtain ⟨t33, et33, Rt33, h⟩ := zn_some h
          refine z_iincE C (zd tX11_counted 56 rfl) (by rw [hN]; decide) rfl et33 ?_
          refine z_goto (tgt := 80) C (zd tX11_counted 57 rfl) (by decide) ?_
          refine z_sub (lo' := [some (zr 0), none, none, none, none, some (zr a5), some (zi x6), some (zi t32), some (zi t33)]) (zsub_s (zsub_n (zsub_n (zsub_n (zsub_n (zsub_s (zsub_s (zsub_s (zsub_s zsub_0))))))))) ?_
          exact ih v28 a5 x6 t32 t33 _ h p30.1 ga5 Rx6 Rt32 Rt33 K1
set_option maxRecDepth 100000 in
set_option maxHeartbeats 4000000 in
theorem jX11_counted_J40 {E : zE} (C : zC E 137 cX11_counted RX11 vsX11_counted) (hN : zEN E = 9) (ho : zEo E = 0) (hz : zEz E = False) (hRm : zER E = rmX11_counted) {v' : zHp} {r' : Int} (ret : zRet E cX11_counted 0 0 137 (some .int) (zV 0 137 v' ∧ zR r') (some (zi r')) v') (v : zHp) (x2 : Int) (b0 : Nat) (h : fX11_counted_J40 v x2 b0 = some (v', r')) (hv : zV 0 137 v) (Rx2 : zR x2) (gb0 : zG E 137 b0 20 2692) : zX E 0 0 137 v 40 [some (zr 0), none, some (zi x2), none, none, none, none, none, none] [zr b0] := by
  unfold fX11_counted_J40 at h
  refine z_astore C (zd tX11_counted 19 rfl) (by rw [hN]; decide) ?_
  refine z_aload_n C (zd tX11_counted 20 rfl) rfl ?_
  obtain ⟨u11, eu11, h⟩ := zb_some h
  obtain ⟨q12, h⟩ := zck_some h
  have gu11 := kg_7 ho q12.2
  refine gl_11_2 C (lg_0 ho) zic_11 (zm zwd_402) (zdyn q12.1 eu11) (zd tX11_counted 21 rfl) ?_
  refine gl_7_0 C gu11 zic_7 (zm zwd_151) (vl_7_0 ho hv gu11) (zd tX11_counted 22 rfl) ?_
  refine z_iload_n C (zd tX11_counted 23 rfl) rfl ?_
  refine z_bipush C (by decide) (zd tX11_counted 24 rfl) ?_
  refine z_imul C (zd tX11_counted 25 rfl) ?_
  refine z_bipush C (by decide) (zd tX11_counted 26 rfl) ?_
  refine z_iadd C (zd tX11_counted 27 rfl) ?_
  obtain ⟨t13, et13, Rt13, h⟩ := zn_some h
  refine z_nk 0 (congrArg zI et13.symm) rfl ?_
  obtain ⟨v14, r15, cv14, h⟩ := zcl_some h
  refine zc_V C ho hz hRm (qX2_quartersAhead _ _ _ _ (lk_7_0 ho gu11).1 Rt13 hv cv14) (lk_7_0 ho gu11) (by decide) rfl (zgV zwd_826 zwd_694 zwd_695 zwd_5 zwd_696) rfl pX2_quartersAhead rfl ⟨rfl, rfl⟩ ⟨Nat.le_of_ble_eq_true rfl, Nat.le_of_ble_eq_true rfl⟩ [] rfl (Nat.le_of_ble_eq_true rfl) (zd tX11_counted 28 rfl) [zi r15] rfl (fun p16 => ?_)
  refine z_istore C (zd tX11_counted 29 rfl) (by rw [hN]; decide) ?_
  refine z_iconst C (zd tX11_counted 30 rfl) ?_
  refine z_istore C (zd tX11_counted 31 rfl) (by rw [hN]; decide) ?_
  refine z_aload_n C (zd tX11_counted 32 rfl) rfl ?_
  obtain ⟨u17, eu17, h⟩ := zb_some h
  obtain ⟨q18, h⟩ := zck_some h
  have gu17 := kg_7 ho q18.2
  refine gl_11_2 C (lg_0 ho) zic_11 (zm zwd_402) (zdyn q18.1 eu17) (zd tX11_counted 33 rfl) ?_
  refine gl_7_0 C gu17 zic_7 (zm zwd_151) (vl_7_0 ho p16.1 gu17) (zd tX11_counted 34 rfl) ?_
  refine z_iload_n C (zd tX11_counted 35 rfl) rfl ?_
  refine z_bipush C (by decide) (zd tX11_counted 36 rfl) ?_
  refine z_imul C (zd tX11_counted 37 rfl) ?_
  obtain ⟨t19, et19, Rt19, h⟩ := zn_some h
  refine z_nk 0 (congrArg zI et19.symm) rfl ?_
  obtain ⟨v20, r21, cv20, h⟩ := zcl_some h
  refine zc_V C ho hz hRm (qX2_quartersAhead _ _ _ _ (lk_7_0 ho gu17).1 Rt19 p16.1 cv20) (lk_7_0 ho gu17) (by decide) rfl (zgV zwd_826 zwd_694 zwd_695 zwd_5 zwd_696) rfl pX2_quartersAhead rfl ⟨rfl, rfl⟩ ⟨Nat.le_of_ble_eq_true rfl, Nat.le_of_ble_eq_true rfl⟩ [] rfl (Nat.le_of_ble_eq_true rfl) (zd tX11_counted 38 rfl) [zi r21] rfl (fun p22 => ?_)
  refine z_istore C (zd tX11_counted 39 rfl) (by rw [hN]; decide) ?_
  refine z_sub (lo' := [some (zr 0), none, none, none, none, some (zr b0), some (zi r15), some (zi 0), some (zi r21)]) (zsub_s (zsub_n (zsub_n (zsub_n (zsub_n (zsub_s (zsub_s (zsub_s (zsub_s zsub_0))))))))) ?_
  obtain ⟨v34, w35, lv34, h⟩ := zl_some h
  refine bX11_counted_L80 C hN ho hz hRm zFU v20 b0 r15 0 r21 _ lv34 p22.1 gb0 p16.2 (zR_c 0 rfl) p22.2 (fun w1 q1 e1 hv34 Rw35 => ?_)
  obtain ⟨rfl, rfl⟩ := zpp e1
  refine z_iload C (zd tX11_counted 58 rfl) rfl ?_
  obtain ⟨rfl, rfl⟩ := zpi h
  exact ret.1 _ _ _ _ ⟨hv34, Rw35⟩ rfl rfl rfl (zd tX11_counted 59 rfl)
set_option maxRecDepth 100000 in
set_option maxHeartbeats 4000000 in
theorem qX11_counted (l : Launch) (D : va_G) (ids : Nat → ClassId) (b : Nat) {x1 : Int} (Rx1 : zR x1) {x2 : Int} (Rx2 : zR x2) {x3 : Int} (Rx3 : zR x3) {v v' : zHp} {r' : Int} (hv : zV 0 137 v) (h : fX11_counted v x1 x2 x3 = some (v', r')) : zCT l yX11_counted vsX11_counted rmX11_counted D ids b 0 False 137 [zr 0, zi x1, zi x2, zi x3] v 137 (zV 0 137 v' ∧ zR r') (some (zi r')) v' 0 0 := by
  refine zMet (own := RX11) (by decide +kernel) (show vsX11_counted = _ from rfl) (Nat.le_of_ble_eq_true rfl) rfl ?_
  intro E hl hRm hD hids hb ho hz hN C hname ret
  subst hl hD hids hb
  unfold fX11_counted at h
  refine z_iload_n C (zd tX11_counted 0 rfl) rfl ?_
  obtain ⟨v1, r2, cv1, h⟩ := zcl_some h
  refine zc_S C ho hz hRm (qX11_isWorker _ _ _ _ Rx1 hv cv1) (zgS zwd_633 zwd_634 zwd_1 zwd_635) rfl pX11_isWorker rfl ⟨rfl, rfl⟩ ⟨Nat.le_of_ble_eq_true rfl, Nat.le_of_ble_eq_true rfl⟩ [] rfl (Nat.le_of_ble_eq_true rfl) (zd tX11_counted 1 rfl) [zi r2] rfl (fun p3 => ?_)
  refine z_if_eq (tgt := 14) C p3.2 (zd tX11_counted 2 rfl) (by decide) h (fun h => ?_) (fun h => ?_)
  · refine z_iconst C (zd tX11_counted 6 rfl) ?_
    obtain ⟨rfl, rfl⟩ := zpi h
    exact ret.1 _ _ _ _ ⟨p3.1, (zR_c (-1) rfl)⟩ rfl rfl rfl (zd tX11_counted 7 rfl)
  · refine z_iload_n C (zd tX11_counted 3 rfl) rfl ?_
    obtain ⟨v4, r5, cv4, h⟩ := zcl_some h
    refine zc_S C ho hz hRm (qX11_isWeek _ _ _ _ Rx2 p3.1 cv4) (zgS zwd_831 zwd_832 zwd_1 zwd_833) rfl pX11_isWeek rfl ⟨rfl, rfl⟩ ⟨Nat.le_of_ble_eq_true rfl, Nat.le_of_ble_eq_true rfl⟩ [] rfl (Nat.le_of_ble_eq_true rfl) (zd tX11_counted 4 rfl) [zi r5] rfl (fun p6 => ?_)
    refine z_if_ne (tgt := 16) C p6.2 (zd tX11_counted 5 rfl) (by decide) h (fun h => ?_) (fun h => ?_)
    · refine z_aload_n C (zd tX11_counted 8 rfl) rfl ?_
      refine z_iload_n C (zd tX11_counted 9 rfl) rfl ?_
      obtain ⟨v7, r8, cv7, h⟩ := zcl_some h
      refine zc_V C ho hz hRm (qX11_sheetOf _ _ _ _ Rx1 p6.1 cv7) (lg_0 ho) (by decide) rfl (zgV zwd_673 zwd_675 zws_12 zwd_1 zwd_676) rfl pX11_sheetOf rfl ⟨rfl, rfl⟩ ⟨Nat.le_of_ble_eq_true rfl, Nat.le_of_ble_eq_true rfl⟩ [] rfl (Nat.le_of_ble_eq_true rfl) (zd tX11_counted 10 rfl) [zr (r8).toNat] rfl (fun p9 => ?_)
      obtain ⟨u10, eu10, h⟩ := zb_some h
      have gu10 := kg_8 ho (show zK u10 = _ by rw [eu10]; exact p9.2.2)
      refine z_r0 eu10.symm ?_
      refine z_astore C (zd tX11_counted 11 rfl) (by rw [hN]; decide) ?_
      refine z_iload_n C (zd tX11_counted 12 rfl) rfl ?_
      refine z_if_eq (tgt := 35) C Rx3 (zd tX11_counted 13 rfl) (by decide) h (fun h => ?_) (fun h => ?_)
      · refine z_aload C (zd tX11_counted 17 rfl) rfl ?_
        refine gl_8_6 C gu10 zic_8 (zm zwd_269) (vl_8_6 ho p9.1 gu10) (zd tX11_counted 18 rfl) ?_
        refine z_sub (lo' := [some (zr 0), none, some (zi x2), none, none, none, none, none, none]) (zsub_s (zsub_n (zsub_s (zsub_n (zsub_n (zsub_n (zsub_n (zsub_n (zsub_n zsub_0))))))))) ?_
        exact jX11_counted_J40 C hN ho hz hRm ret v7 x2 (u10 + 5) h p9.1 Rx2 (lk_8_6 ho gu10)
      · refine z_aload C (zd tX11_counted 14 rfl) rfl ?_
        refine gl_8_7 C gu10 zic_8 (zm zwd_271) (vl_8_7 ho p9.1 gu10) (zd tX11_counted 15 rfl) ?_
        refine z_goto (tgt := 40) C (zd tX11_counted 16 rfl) (by decide) ?_
        refine z_sub (lo' := [some (zr 0), none, some (zi x2), none, none, none, none, none, none]) (zsub_s (zsub_n (zsub_s (zsub_n (zsub_n (zsub_n (zsub_n (zsub_n (zsub_n zsub_0))))))))) ?_
        exact jX11_counted_J40 C hN ho hz hRm ret v7 x2 (u10 + 6) h p9.1 Rx2 (lk_8_7 ho gu10)
    · refine z_iconst C (zd tX11_counted 6 rfl) ?_
      obtain ⟨rfl, rfl⟩ := zpi h
      exact ret.1 _ _ _ _ ⟨p6.1, (zR_c (-1) rfl)⟩ rfl rfl rfl (zd tX11_counted 7 rfl)
noncomputable def vsX11_day : List Cond := .code yX11_day cX11_day 4 (some .int) :: zbig
abbrev rmX11_day : Room := { frames := 8, cells := 0, slots := 0, locals := 214 }
theorem pX11_day : yX11_day.cls = RX11 ∧ yX11_day.cls ≠ "java/lang/invoke/MethodHandle" ∧ yX11_day.cls ≠ "java/lang/invoke/VarHandle" ∧ (parseMethodDescriptor yX11_day.desc).map (fun d => d.parameters.length) = some 3 := by decide +kernel
set_option maxRecDepth 100000 in
set_option maxHeartbeats 4000000 in
theorem qX11_day (l : Launch) (D : va_G) (ids : Nat → ClassId) (b : Nat) {x1 : Int} (Rx1 : zR x1) {x2 : Int} (Rx2 : zR x2) {x3 : Int} (Rx3 : zR x3) {v v' : zHp} {r' : Int} (hv : zV 0 137 v) (h : fX11_day v x1 x2 x3 = some (v', r')) : zCT l yX11_day vsX11_day rmX11_day D ids b 0 False 137 [zr 0, zi x1, zi x2, zi x3] v 137 (zV 0 137 v' ∧ zR r') (some (zi r')) v' 0 0 := by
  refine zMet (own := RX11) (by decide +kernel) (show vsX11_day = _ from rfl) (Nat.le_of_ble_eq_true rfl) rfl ?_
  intro E hl hRm hD hids hb ho hz hN C hname ret
  subst hl hD hids hb
  unfold fX11_day at h
  refine z_iload_n C (zd tX11_day 0 rfl) rfl ?_
  refine z_if_lt (tgt := 10) C Rx2 (zd tX11_day 1 rfl) (by decide) h (fun h => ?_) (fun h => ?_)
  · refine z_iconst C (zd tX11_day 5 rfl) ?_
    refine z_goto (tgt := 24) C (zd tX11_day 6 rfl) (by decide) ?_
    obtain ⟨rfl, rfl⟩ := zpi h
    exact ret.1 _ _ _ _ ⟨hv, (zR_c (-1) rfl)⟩ rfl rfl rfl (zd tX11_day 15 rfl)
  · refine z_iload_n C (zd tX11_day 2 rfl) rfl ?_
    refine z_bipush C (by decide) (zd tX11_day 3 rfl) ?_
    refine z_icmp_lt (tgt := 14) C Rx2 (zR_c 28 rfl) (zd tX11_day 4 rfl) (by decide) h (fun h => ?_) (fun h => ?_)
    · refine z_aload_n C (zd tX11_day 7 rfl) rfl ?_
      refine z_iload_n C (zd tX11_day 8 rfl) rfl ?_
      refine z_iload_n C (zd tX11_day 9 rfl) rfl ?_
      refine z_iload_n C (zd tX11_day 10 rfl) rfl ?_
      refine z_iconst C (zd tX11_day 11 rfl) ?_
      refine z_iadd C (zd tX11_day 12 rfl) ?_
      refine z_iload_n C (zd tX11_day 13 rfl) rfl ?_
      obtain ⟨t1, et1, Rt1, h⟩ := zn_some h
      refine z_nk 1 (congrArg zI et1.symm) rfl ?_
      obtain ⟨v2, r3, cv2, h⟩ := zcl_some h
      refine zc_V C ho hz hRm (qX11_countDays _ _ _ _ Rx1 Rx2 Rt1 Rx3 hv cv2) (lg_0 ho) (by decide) rfl (zgV zwd_818 zwd_820 zws_25 zwd_1 zwd_821) rfl pX11_countDays rfl ⟨rfl, rfl⟩ ⟨Nat.le_of_ble_eq_true rfl, Nat.le_of_ble_eq_true rfl⟩ [] rfl (Nat.le_of_ble_eq_true rfl) (zd tX11_day 14 rfl) [zi r3] rfl (fun p4 => ?_)
      obtain ⟨rfl, rfl⟩ := zpi h
      exact ret.1 _ _ _ _ ⟨p4.1, p4.2⟩ rfl rfl rfl (zd tX11_day 15 rfl)
    · refine z_iconst C (zd tX11_day 5 rfl) ?_
      refine z_goto (tgt := 24) C (zd tX11_day 6 rfl) (by decide) ?_
      obtain ⟨rfl, rfl⟩ := zpi h
      exact ret.1 _ _ _ _ ⟨hv, (zR_c (-1) rfl)⟩ rfl rfl rfl (zd tX11_day 15 rfl)
noncomputable def vsX11_payOfDays : List Cond := .code yX11_payOfDays cX11_payOfDays 7 (some .int) :: zbig
abbrev rmX11_payOfDays : Room := { frames := 2, cells := 0, slots := 0, locals := 42 }
theorem pX11_payOfDays : yX11_payOfDays.cls = RX11 ∧ yX11_payOfDays.cls ≠ "java/lang/invoke/MethodHandle" ∧ yX11_payOfDays.cls ≠ "java/lang/invoke/VarHandle" ∧ (parseMethodDescriptor yX11_payOfDays.desc).map (fun d => d.parameters.length) = some 3 := by decide +kernel
set_option maxRecDepth 100000 in
set_option maxHeartbeats 4000000 in
theorem bX11_payOfDays_L29 {E : zE} (C : zC E 137 cX11_payOfDays RX11 vsX11_payOfDays) (hN : zEN E = 7) (ho : zEo E = 0) (hz : zEz E = False) (hRm : zER E = rmX11_payOfDays) : ∀ (fu : Nat) (v : zHp) (a1 : Nat) (x4 : Int) (x5 : Int) (x6 : Int) (res : (zHp × (Int))), fX11_payOfDays_L29 fu v a1 x4 x5 x6 = some res → zV 0 137 v → zG E 137 a1 20 2692 → zR x4 → zR x5 → zR x6 → (∀ (w : zHp) (q : Int), res = (w, q) → zV 0 137 w → zR q → zX E 0 0 137 w 78 [none, none, none, none, none, some (zi q), none] []) → zX E 0 0 137 v 29 [some (zr 0), some (zr a1), none, none, some (zi x4), some (zi x5), some (zi x6)] [] := by
  intro fu
  induction fu with
  | zero =>
    intro v _ _ _ _ res h
    cases h
  | succ fu ih =>
    intro v a1 x4 x5 x6 res h hv ga1 Rx4 Rx5 Rx6 K1
    rw [fX11_payOfDays_L29.eq_2] at h
    refine z_iload C (zd tX11_payOfDays 14 rfl) rfl ?_
    refine z_iload C (zd tX11_payOfDays 15 rfl) rfl ?_
    refine z_icmp_ge (tgt := 78) C Rx6 Rx4 (zd tX11_payOfDays 16 rfl) (by decide) h (fun h => ?_) (fun h => ?_)
    · refine z_sub (lo' := [none, none, none, none, none, some (zi x5), none]) (zsub_n (zsub_n (zsub_n (zsub_n (zsub_n (zsub_s (zsub_n zsub_0))))))) ?_
      exact K1 _ _ (Option.some.inj h).symm hv Rx5
    · refine z_aload_n C (zd tX11_payOfDays 17 rfl) rfl ?_
      refine z_iload C (zd tX11_payOfDays 18 rfl) rfl ?_
      obtain ⟨q11, h⟩ := zck_some h
      refine za_iald C ga1 rfl (by decide) q11 (zd tX11_payOfDays 19 rfl) ?_
      refine z_bipush C (by decide) (zd tX11_payOfDays 20 rfl) ?_
      refine z_icmp_eq (tgt := 72) C (hv.1 _ _) (zR_c (-2) rfl) (zd tX11_payOfDays 21 rfl) (by decide) h (fun h => ?_) (fun h => ?_)
      · obtain ⟨t12, et12, Rt12, h⟩ := zn_some h
        refine z_iincE C (zd tX11_payOfDays 37 rfl) (by rw [hN]; decide) rfl et12 ?_
        refine z_goto (tgt := 29) C (zd tX11_payOfDays 38 rfl) (by decide) ?_
        refine z_sub (lo' := [some (zr 0), some (zr a1), none, none, some (zi x4), some (zi x5), some (zi t12)]) (zsub_s (zsub_s (zsub_n (zsub_n (zsub_s (zsub_s (zsub_s zsub_0))))))) ?_
        exact ih v a1 x4 x5 t12 _ h hv ga1 Rx4 Rx5 Rt12 K1
      · refine z_iload C (zd tX11_payOfDays 22 rfl) rfl ?_
        refine z_aload_n C (zd tX11_payOfDays 23 rfl) rfl ?_
        obtain ⟨u13, eu13, h⟩ := zb_some h
        obtain ⟨q14, h⟩ := zck_some h
        have gu13 := kg_7 ho q14.2
        refine gl_11_2 C (lg_0 ho) zic_11 (zm zwd_402) (zdyn q14.1 eu13) (zd tX11_payOfDays 24 rfl) ?_
        refine gf_7_9 C gu13 zic_7 (zm zwd_183) (zd tX11_payOfDays 25 rfl) ?_
        refine z_bipush C (by decide) (zd tX11_payOfDays 26 rfl) ?_
        refine z_aload_n C (zd tX11_payOfDays 27 rfl) rfl ?_
        obtain ⟨u15, eu15, h⟩ := zb_some h
        obtain ⟨q16, h⟩ := zck_some h
        have gu15 := kg_7 ho q16.2
        refine gl_11_2 C (lg_0 ho) zic_11 (zm zwd_402) (zdyn q16.1 eu15) (zd tX11_payOfDays 28 rfl) ?_
        refine z_aload_n C (zd tX11_payOfDays 29 rfl) rfl ?_
        refine z_iload C (zd tX11_payOfDays 30 rfl) rfl ?_
        obtain ⟨q17, h⟩ := zck_some h
        refine za_iald C ga1 rfl (by decide) q17 (zd tX11_payOfDays 31 rfl) ?_
        obtain ⟨v18, r19, cv18, h⟩ := zcl_some h
        refine zc_V C ho hz hRm (qX7_hundredthsUnder _ _ _ _ gu15.1 (hv.1 _ _) hv cv18) gu15 (by decide) rfl (zgV zwd_847 zwd_761 zwd_762 zwd_4 zwd_763) rfl pX7_hundredthsUnder rfl ⟨rfl, rfl⟩ ⟨Nat.le_of_ble_eq_true rfl, Nat.le_of_ble_eq_true rfl⟩ [zi 100, zi (v u13 9), zi x5] rfl (Nat.le_of_ble_eq_true rfl) (zd tX11_payOfDays 32 rfl) [zi r19, zi 100, zi (v u13 9), zi x5] rfl (fun p20 => ?_)
        refine z_iadd C (zd tX11_payOfDays 33 rfl) ?_
        refine z_imul C (zd tX11_payOfDays 34 rfl) ?_
        refine z_iadd C (zd tX11_payOfDays 35 rfl) ?_
        obtain ⟨t21, et21, Rt21, h⟩ := zn_some h
        refine z_n0 (congrArg zI et21.symm) ?_
        refine z_istore C (zd tX11_payOfDays 36 rfl) (by rw [hN]; decide) ?_
        obtain ⟨t22, et22, Rt22, h⟩ := zn_some h
        refine z_iincE C (zd tX11_payOfDays 37 rfl) (by rw [hN]; decide) rfl et22 ?_
        refine z_goto (tgt := 29) C (zd tX11_payOfDays 38 rfl) (by decide) ?_
        refine z_sub (lo' := [some (zr 0), some (zr a1), none, none, some (zi x4), some (zi t21), some (zi t22)]) (zsub_s (zsub_s (zsub_n (zsub_n (zsub_s (zsub_s (zsub_s zsub_0))))))) ?_
        exact ih v18 a1 x4 t21 t22 _ h p20.1 ga1 Rx4 Rt21 Rt22 K1
set_option maxRecDepth 100000 in
set_option maxHeartbeats 4000000 in
theorem qX11_payOfDays (l : Launch) (D : va_G) (ids : Nat → ClassId) (b : Nat) {a1 : Nat} (k1 : zK a1 = (20, 2692)) {x2 : Int} (Rx2 : zR x2) {x3 : Int} (Rx3 : zR x3) {v v' : zHp} {r' : Int} (hv : zV 0 137 v) (h : fX11_payOfDays v a1 x2 x3 = some (v', r')) : zCT l yX11_payOfDays vsX11_payOfDays rmX11_payOfDays D ids b 0 False 137 [zr 0, zr a1, zi x2, zi x3] v 137 (zV 0 137 v' ∧ zR r') (some (zi r')) v' 0 0 := by
  refine zMet (own := RX11) (by decide +kernel) (show vsX11_payOfDays = _ from rfl) (Nat.le_of_ble_eq_true rfl) rfl ?_
  intro E hl hRm hD hids hb ho hz hN C hname ret
  subst hl hD hids hb
  have ga1 := ka_20_2692 ho k1
  unfold fX11_payOfDays at h
  refine z_aload_n C (zd tX11_payOfDays 0 rfl) rfl ?_
  obtain ⟨u1, eu1, h⟩ := zb_some h
  obtain ⟨q2, h⟩ := zck_some h
  have gu1 := kg_7 ho q2.2
  refine gl_11_2 C (lg_0 ho) zic_11 (zm zwd_402) (zdyn q2.1 eu1) (zd tX11_payOfDays 1 rfl) ?_
  refine gl_7_0 C gu1 zic_7 (zm zwd_151) (vl_7_0 ho hv gu1) (zd tX11_payOfDays 2 rfl) ?_
  refine z_iload_n C (zd tX11_payOfDays 3 rfl) rfl ?_
  obtain ⟨v3, r4, cv3, h⟩ := zcl_some h
  refine zc_V C ho hz hRm (qX2_quartersAhead _ _ _ _ (lk_7_0 ho gu1).1 Rx3 hv cv3) (lk_7_0 ho gu1) (by decide) rfl (zgV zwd_826 zwd_694 zwd_695 zwd_5 zwd_696) rfl pX2_quartersAhead rfl ⟨rfl, rfl⟩ ⟨Nat.le_of_ble_eq_true rfl, Nat.le_of_ble_eq_true rfl⟩ [] rfl (Nat.le_of_ble_eq_true rfl) (zd tX11_payOfDays 4 rfl) [zi r4] rfl (fun p5 => ?_)
  refine z_istore C (zd tX11_payOfDays 5 rfl) (by rw [hN]; decide) ?_
  refine z_iconst C (zd tX11_payOfDays 6 rfl) ?_
  refine z_istore C (zd tX11_payOfDays 7 rfl) (by rw [hN]; decide) ?_
  refine z_aload_n C (zd tX11_payOfDays 8 rfl) rfl ?_
  obtain ⟨u6, eu6, h⟩ := zb_some h
  obtain ⟨q7, h⟩ := zck_some h
  have gu6 := kg_7 ho q7.2
  refine gl_11_2 C (lg_0 ho) zic_11 (zm zwd_402) (zdyn q7.1 eu6) (zd tX11_payOfDays 9 rfl) ?_
  refine gl_7_0 C gu6 zic_7 (zm zwd_151) (vl_7_0 ho p5.1 gu6) (zd tX11_payOfDays 10 rfl) ?_
  refine z_iload_n C (zd tX11_payOfDays 11 rfl) rfl ?_
  obtain ⟨v8, r9, cv8, h⟩ := zcl_some h
  refine zc_V C ho hz hRm (qX2_quartersAhead _ _ _ _ (lk_7_0 ho gu6).1 Rx2 p5.1 cv8) (lk_7_0 ho gu6) (by decide) rfl (zgV zwd_826 zwd_694 zwd_695 zwd_5 zwd_696) rfl pX2_quartersAhead rfl ⟨rfl, rfl⟩ ⟨Nat.le_of_ble_eq_true rfl, Nat.le_of_ble_eq_true rfl⟩ [] rfl (Nat.le_of_ble_eq_true rfl) (zd tX11_payOfDays 12 rfl) [zi r9] rfl (fun p10 => ?_)
  refine z_istore C (zd tX11_payOfDays 13 rfl) (by rw [hN]; decide) ?_
  refine z_sub (lo' := [some (zr 0), some (zr a1), none, none, some (zi r4), some (zi 0), some (zi r9)]) (zsub_s (zsub_s (zsub_n (zsub_n (zsub_s (zsub_s (zsub_s zsub_0))))))) ?_
  obtain ⟨v23, w24, lv23, h⟩ := zl_some h
  refine bX11_payOfDays_L29 C hN ho hz hRm zFU v8 a1 r4 0 r9 _ lv23 p10.1 ga1 p5.2 (zR_c 0 rfl) p10.2 (fun w1 q1 e1 hv23 Rw24 => ?_)
  obtain ⟨rfl, rfl⟩ := zpp e1
  refine z_iload C (zd tX11_payOfDays 39 rfl) rfl ?_
  obtain ⟨rfl, rfl⟩ := zpi h
  exact ret.1 _ _ _ _ ⟨hv23, Rw24⟩ rfl rfl rfl (zd tX11_payOfDays 40 rfl)
noncomputable def vsX11_dayPay : List Cond := .code yX11_dayPay cX11_dayPay 3 (some .int) :: zbig
abbrev rmX11_dayPay : Room := { frames := 7, cells := 0, slots := 0, locals := 186 }
theorem pX11_dayPay : yX11_dayPay.cls = RX11 ∧ yX11_dayPay.cls ≠ "java/lang/invoke/MethodHandle" ∧ yX11_dayPay.cls ≠ "java/lang/invoke/VarHandle" ∧ (parseMethodDescriptor yX11_dayPay.desc).map (fun d => d.parameters.length) = some 2 := by decide +kernel
set_option maxRecDepth 100000 in
set_option maxHeartbeats 4000000 in
theorem qX11_dayPay (l : Launch) (D : va_G) (ids : Nat → ClassId) (b : Nat) {x1 : Int} (Rx1 : zR x1) {x2 : Int} (Rx2 : zR x2) {v v' : zHp} {r' : Int} (hv : zV 0 137 v) (h : fX11_dayPay v x1 x2 = some (v', r')) : zCT l yX11_dayPay vsX11_dayPay rmX11_dayPay D ids b 0 False 137 [zr 0, zi x1, zi x2] v 137 (zV 0 137 v' ∧ zR r') (some (zi r')) v' 0 0 := by
  refine zMet (own := RX11) (by decide +kernel) (show vsX11_dayPay = _ from rfl) (Nat.le_of_ble_eq_true rfl) rfl ?_
  intro E hl hRm hD hids hb ho hz hN C hname ret
  subst hl hD hids hb
  unfold fX11_dayPay at h
  refine z_iload_n C (zd tX11_dayPay 0 rfl) rfl ?_
  obtain ⟨v1, r2, cv1, h⟩ := zcl_some h
  refine zc_S C ho hz hRm (qX11_isWorker _ _ _ _ Rx1 hv cv1) (zgS zwd_633 zwd_634 zwd_1 zwd_635) rfl pX11_isWorker rfl ⟨rfl, rfl⟩ ⟨Nat.le_of_ble_eq_true rfl, Nat.le_of_ble_eq_true rfl⟩ [] rfl (Nat.le_of_ble_eq_true rfl) (zd tX11_dayPay 1 rfl) [zi r2] rfl (fun p3 => ?_)
  refine z_if_eq (tgt := 17) C p3.2 (zd tX11_dayPay 2 rfl) (by decide) h (fun h => ?_) (fun h => ?_)
  · refine z_iconst C (zd tX11_dayPay 8 rfl) ?_
    obtain ⟨rfl, rfl⟩ := zpi h
    exact ret.1 _ _ _ _ ⟨p3.1, (zR_c (-1) rfl)⟩ rfl rfl rfl (zd tX11_dayPay 9 rfl)
  · refine z_iload_n C (zd tX11_dayPay 3 rfl) rfl ?_
    refine z_if_lt (tgt := 17) C Rx2 (zd tX11_dayPay 4 rfl) (by decide) h (fun h => ?_) (fun h => ?_)
    · refine z_iconst C (zd tX11_dayPay 8 rfl) ?_
      obtain ⟨rfl, rfl⟩ := zpi h
      exact ret.1 _ _ _ _ ⟨p3.1, (zR_c (-1) rfl)⟩ rfl rfl rfl (zd tX11_dayPay 9 rfl)
    · refine z_iload_n C (zd tX11_dayPay 5 rfl) rfl ?_
      refine z_bipush C (by decide) (zd tX11_dayPay 6 rfl) ?_
      refine z_icmp_lt (tgt := 19) C Rx2 (zR_c 28 rfl) (zd tX11_dayPay 7 rfl) (by decide) h (fun h => ?_) (fun h => ?_)
      · refine z_aload_n C (zd tX11_dayPay 10 rfl) rfl ?_
        refine z_aload_n C (zd tX11_dayPay 11 rfl) rfl ?_
        refine z_iload_n C (zd tX11_dayPay 12 rfl) rfl ?_
        obtain ⟨v4, r5, cv4, h⟩ := zcl_some h
        refine zc_V C ho hz hRm (qX11_sheetOf _ _ _ _ Rx1 p3.1 cv4) (lg_0 ho) (by decide) rfl (zgV zwd_673 zwd_675 zws_12 zwd_1 zwd_676) rfl pX11_sheetOf rfl ⟨rfl, rfl⟩ ⟨Nat.le_of_ble_eq_true rfl, Nat.le_of_ble_eq_true rfl⟩ [zr 0] rfl (Nat.le_of_ble_eq_true rfl) (zd tX11_dayPay 13 rfl) [zr (r5).toNat, zr 0] rfl (fun p6 => ?_)
        obtain ⟨u7, eu7, h⟩ := zb_some h
        have gu7 := kg_8 ho (show zK u7 = _ by rw [eu7]; exact p6.2.2)
        refine z_r0 eu7.symm ?_
        refine gl_8_6 C gu7 zic_8 (zm zwd_269) (vl_8_6 ho p6.1 gu7) (zd tX11_dayPay 14 rfl) ?_
        refine z_iload_n C (zd tX11_dayPay 15 rfl) rfl ?_
        refine z_iload_n C (zd tX11_dayPay 16 rfl) rfl ?_
        refine z_iconst C (zd tX11_dayPay 17 rfl) ?_
        refine z_iadd C (zd tX11_dayPay 18 rfl) ?_
        obtain ⟨t8, et8, Rt8, h⟩ := zn_some h
        refine z_nk 0 (congrArg zI et8.symm) rfl ?_
        obtain ⟨v9, r10, cv9, h⟩ := zcl_some h
        refine zc_V C ho hz hRm (qX11_payOfDays _ _ _ _ (lk_8_6 ho gu7).1 Rx2 Rt8 p6.1 cv9) (lg_0 ho) (by decide) rfl (zgV zwd_843 zwd_845 zws_27 zwd_1 zwd_846) rfl pX11_payOfDays rfl ⟨rfl, rfl⟩ ⟨Nat.le_of_ble_eq_true rfl, Nat.le_of_ble_eq_true rfl⟩ [] rfl (Nat.le_of_ble_eq_true rfl) (zd tX11_dayPay 19 rfl) [zi r10] rfl (fun p11 => ?_)
        obtain ⟨rfl, rfl⟩ := zpi h
        exact ret.1 _ _ _ _ ⟨p11.1, p11.2⟩ rfl rfl rfl (zd tX11_dayPay 20 rfl)
      · refine z_iconst C (zd tX11_dayPay 8 rfl) ?_
        obtain ⟨rfl, rfl⟩ := zpi h
        exact ret.1 _ _ _ _ ⟨p3.1, (zR_c (-1) rfl)⟩ rfl rfl rfl (zd tX11_dayPay 9 rfl)
noncomputable def vsX1_find : List Cond := .code yX1_find cX1_find 3 (some .int) :: zbig
abbrev rmX1_find : Room := { frames := 0, cells := 0, slots := 0, locals := 0 }
theorem pX1_find : yX1_find.cls = RX1 ∧ yX1_find.cls ≠ "java/lang/invoke/MethodHandle" ∧ yX1_find.cls ≠ "java/lang/invoke/VarHandle" ∧ (parseMethodDescriptor yX1_find.desc).map (fun d => d.parameters.length) = some 1 := by decide +kernel
set_option maxRecDepth 100000 in
set_option maxHeartbeats 4000000 in
theorem bX1_find_L2 {E : zE} (C : zC E 137 cX1_find RX1 vsX1_find) (hN : zEN E = 3) (ho : zEo E = 0) (hz : zEz E = False) (hRm : zER E = rmX1_find) : ∀ (fu : Nat) (v : zHp) (a0 : Nat) (x1 : Int) (x2 : Int) (res : ((zHp × Int) ⊕ (zHp × (Int)))), fX1_find_L2 fu v a0 x1 x2 = some res → zV 0 137 v → zG E 137 a0 1 3 → zR x1 → zR x2 → (∀ (w : zHp) (q : Int), res = .inr (w, q) → zV 0 137 w → True → zX E 0 0 137 w 28 [none, none, none] []) → (∀ (w : zHp) (r : Int), res = .inl (w, r) → zRet E cX1_find 0 0 137 (some .int) (zV 0 137 w ∧ zR r) (some (zi r)) w) → zX E 0 0 137 v 2 [some (zr a0), some (zi x1), some (zi x2)] [] := by
  intro fu
  induction fu with
  | zero =>
    intro v _ _ _ res h
    cases h
  | succ fu ih =>
    intro v a0 x1 x2 res h hv ga0 Rx1 Rx2 K1 K2
    rw [fX1_find_L2.eq_2] at h
    refine z_iload_n C (zd tX1_find 2 rfl) rfl ?_
    refine z_aload_n C (zd tX1_find 3 rfl) rfl ?_
    refine gf_1_2 C ga0 zic_1 (zm zwd_221) (zd tX1_find 4 rfl) ?_
    refine z_icmp_ge (tgt := 28) C Rx2 (hv.1 _ _) (zd tX1_find 5 rfl) (by decide) h (fun h => ?_) (fun h => ?_)
    · refine z_sub (lo' := [none, none, none]) (zsub_n (zsub_n (zsub_n zsub_0))) ?_
      exact K1 _ _ (Option.some.inj h).symm hv trivial
    · refine z_aload_n C (zd tX1_find 6 rfl) rfl ?_
      refine gl_1_0 C ga0 zic_1 (zm zwd_215) (vl_1_0 ho hv ga0) (zd tX1_find 7 rfl) ?_
      refine z_iload_n C (zd tX1_find 8 rfl) rfl ?_
      obtain ⟨q1, h⟩ := zck_some h
      refine za_iald C (lk_1_0 ho ga0) rfl (by decide) q1 (zd tX1_find 9 rfl) ?_
      refine z_iload_n C (zd tX1_find 10 rfl) rfl ?_
      refine z_icmp_ne (tgt := 22) C (hv.1 _ _) Rx1 (zd tX1_find 11 rfl) (by decide) h (fun h => ?_) (fun h => ?_)
      · obtain ⟨t2, et2, Rt2, h⟩ := zn_some h
        refine z_iincE C (zd tX1_find 14 rfl) (by rw [hN]; decide) rfl et2 ?_
        refine z_goto (tgt := 2) C (zd tX1_find 15 rfl) (by decide) ?_
        refine z_sub (lo' := [some (zr a0), some (zi x1), some (zi t2)]) (zsub_s (zsub_s (zsub_s zsub_0))) ?_
        exact ih v a0 x1 t2 _ h hv ga0 Rx1 Rt2 K1 K2
      · refine z_iload_n C (zd tX1_find 12 rfl) rfl ?_
        have K2 := K2 _ _ (Option.some.inj h).symm
        exact K2.1 _ _ _ _ ⟨hv, Rx2⟩ rfl rfl rfl (zd tX1_find 13 rfl)
set_option maxRecDepth 100000 in
set_option maxHeartbeats 4000000 in
theorem qX1_find (l : Launch) (D : va_G) (ids : Nat → ClassId) (b : Nat) {a0 : Nat} (k0 : zK a0 = (1, 3)) {x1 : Int} (Rx1 : zR x1) {v v' : zHp} {r' : Int} (hv : zV 0 137 v) (h : fX1_find v a0 x1 = some (v', r')) : zCT l yX1_find vsX1_find rmX1_find D ids b 0 False 137 [zr a0, zi x1] v 137 (zV 0 137 v' ∧ zR r') (some (zi r')) v' 0 0 := by
  refine zMet (own := RX1) (by decide +kernel) (show vsX1_find = _ from rfl) (Nat.le_of_ble_eq_true rfl) rfl ?_
  intro E hl hRm hD hids hb ho hz hN C hname ret
  subst hl hD hids hb
  have ga0 := kg_1 ho k0
  unfold fX1_find at h
  refine z_iconst C (zd tX1_find 0 rfl) ?_
  refine z_istore_n C (zd tX1_find 1 rfl) (by rw [hN]; decide) ?_
  refine z_sub (lo' := [some (zr a0), some (zi x1), some (zi 0)]) (zsub_s (zsub_s (zsub_s zsub_0))) ?_
  rcases zlf_some h with lv3 | ⟨v3, w4, lv3, h⟩
  · exact bX1_find_L2 C hN ho hz hRm zFU v a0 x1 0 _ lv3 hv ga0 Rx1 (zR_c 0 rfl) (fun _ _ e => by cases e) (fun _ _ e => by obtain ⟨rfl, rfl⟩ := zpp (Sum.inl.inj e); exact ret)
  · refine bX1_find_L2 C hN ho hz hRm zFU v a0 x1 0 _ lv3 hv ga0 Rx1 (zR_c 0 rfl) (fun w1 q1 e1 hv3 Rw4 => ?_) (fun _ _ e => by cases e)
    obtain ⟨rfl, rfl⟩ := zpp (Sum.inr.inj e1)
    refine z_iconst C (zd tX1_find 16 rfl) ?_
    obtain ⟨rfl, rfl⟩ := zpi h
    exact ret.1 _ _ _ _ ⟨hv3, (zR_c (-1) rfl)⟩ rfl rfl rfl (zd tX1_find 17 rfl)
noncomputable def vsX1_takes : List Cond := .code yX1_takes cX1_takes 2 (some .boolean) :: zbig
abbrev rmX1_takes : Room := { frames := 1, cells := 0, slots := 0, locals := 22 }
theorem pX1_takes : yX1_takes.cls = RX1 ∧ yX1_takes.cls ≠ "java/lang/invoke/MethodHandle" ∧ yX1_takes.cls ≠ "java/lang/invoke/VarHandle" ∧ (parseMethodDescriptor yX1_takes.desc).map (fun d => d.parameters.length) = some 1 := by decide +kernel
set_option maxRecDepth 100000 in
set_option maxHeartbeats 4000000 in
theorem qX1_takes (l : Launch) (D : va_G) (ids : Nat → ClassId) (b : Nat) {a0 : Nat} (k0 : zK a0 = (1, 3)) {x1 : Int} (Rx1 : zR x1) {v v' : zHp} {r' : Int} (hv : zV 0 137 v) (h : fX1_takes v a0 x1 = some (v', r')) : zCT l yX1_takes vsX1_takes rmX1_takes D ids b 0 False 137 [zr a0, zi x1] v 137 (zV 0 137 v' ∧ zR r') (some (zi r')) v' 0 0 := by
  refine zMet (own := RX1) (by decide +kernel) (show vsX1_takes = _ from rfl) (Nat.le_of_ble_eq_true rfl) rfl ?_
  intro E hl hRm hD hids hb ho hz hN C hname ret
  subst hl hD hids hb
  have ga0 := kg_1 ho k0
  unfold fX1_takes at h
  refine z_aload_n C (zd tX1_takes 0 rfl) rfl ?_
  refine gf_1_2 C ga0 zic_1 (zm zwd_221) (zd tX1_takes 1 rfl) ?_
  refine z_bipush C (by decide) (zd tX1_takes 2 rfl) ?_
  refine z_icmp_ge (tgt := 22) C (hv.1 _ _) (zR_c 60 rfl) (zd tX1_takes 3 rfl) (by decide) h (fun h => ?_) (fun h => ?_)
  · refine z_iconst C (zd tX1_takes 11 rfl) ?_
    obtain ⟨rfl, rfl⟩ := zpi h
    exact ret.1 _ _ _ _ ⟨hv, (zR_c 0 rfl)⟩ rfl rfl (by decide) (zd tX1_takes 12 rfl)
  · refine z_aload_n C (zd tX1_takes 4 rfl) rfl ?_
    refine z_iload_n C (zd tX1_takes 5 rfl) rfl ?_
    obtain ⟨v1, r2, cv1, h⟩ := zcl_some h
    refine zc_V C ho hz hRm (qX1_find _ _ _ _ ga0.1 Rx1 hv cv1) ga0 (by decide) rfl (zgV zwd_640 zwd_641 zwd_642 zwd_7 zwd_643) rfl pX1_find rfl ⟨rfl, rfl⟩ ⟨Nat.le_of_ble_eq_true rfl, Nat.le_of_ble_eq_true rfl⟩ [] rfl (Nat.le_of_ble_eq_true rfl) (zd tX1_takes 6 rfl) [zi r2] rfl (fun p3 => ?_)
    refine z_iconst C (zd tX1_takes 7 rfl) ?_
    refine z_icmp_ne (tgt := 22) C p3.2 (zR_c (-1) rfl) (zd tX1_takes 8 rfl) (by decide) h (fun h => ?_) (fun h => ?_)
    · refine z_iconst C (zd tX1_takes 11 rfl) ?_
      obtain ⟨rfl, rfl⟩ := zpi h
      exact ret.1 _ _ _ _ ⟨p3.1, (zR_c 0 rfl)⟩ rfl rfl (by decide) (zd tX1_takes 12 rfl)
    · refine z_iconst C (zd tX1_takes 9 rfl) ?_
      refine z_goto (tgt := 23) C (zd tX1_takes 10 rfl) (by decide) ?_
      obtain ⟨rfl, rfl⟩ := zpi h
      exact ret.1 _ _ _ _ ⟨p3.1, (zR_c 1 rfl)⟩ rfl rfl (by decide) (zd tX1_takes 12 rfl)
noncomputable def vsX2_momentAt : List Cond := .code yX2_momentAt cX2_momentAt 5 (some .int) :: zbig
abbrev rmX2_momentAt : Room := { frames := 0, cells := 0, slots := 0, locals := 0 }
theorem pX2_momentAt : yX2_momentAt.cls = RX2 ∧ yX2_momentAt.cls ≠ "java/lang/invoke/MethodHandle" ∧ yX2_momentAt.cls ≠ "java/lang/invoke/VarHandle" ∧ (parseMethodDescriptor yX2_momentAt.desc).map (fun d => d.parameters.length) = some 3 := by decide +kernel
set_option maxRecDepth 100000 in
set_option maxHeartbeats 4000000 in
theorem jX2_momentAt_J88 {E : zE} (C : zC E 137 cX2_momentAt RX2 vsX2_momentAt) (hN : zEN E = 5) (ho : zEo E = 0) (hz : zEz E = False) (hRm : zER E = rmX2_momentAt) {v' : zHp} {r' : Int} (ret : zRet E cX2_momentAt 0 0 137 (some .int) (zV 0 137 v' ∧ zR r') (some (zi r')) v') (v : zHp) (a0 : Nat) (x3 : Int) (x4 : Int) (h : fX2_momentAt_J88 v a0 x3 x4 = some (v', r')) (hv : zV 0 137 v) (ga0 : zG E 137 a0 2 5) (Rx3 : zR x3) (Rx4 : zR x4) : zX E 0 0 137 v 88 [some (zr a0), none, none, some (zi x3), some (zi x4)] [] := by
  unfold fX2_momentAt_J88 at h
  refine z_iload_n C (zd tX2_momentAt 46 rfl) rfl ?_
  refine z_if_eq (tgt := 94) C Rx3 (zd tX2_momentAt 47 rfl) (by decide) h (fun h => ?_) (fun h => ?_)
  · refine z_aload_n C (zd tX2_momentAt 50 rfl) rfl ?_
    refine gf_2_2 C ga0 zic_2 (zm zwd_89) (zd tX2_momentAt 51 rfl) ?_
    refine z_iconst C (zd tX2_momentAt 52 rfl) ?_
    refine z_icmp_eq (tgt := 111) C (hv.1 _ _) (zR_c (-1) rfl) (zd tX2_momentAt 53 rfl) (by decide) h (fun h => ?_) (fun h => ?_)
    · refine z_iload C (zd tX2_momentAt 58 rfl) rfl ?_
      refine z_goto (tgt := 123) C (zd tX2_momentAt 59 rfl) (by decide) ?_
      obtain ⟨rfl, rfl⟩ := zpi h
      exact ret.1 _ _ _ _ ⟨hv, Rx4⟩ rfl rfl rfl (zd tX2_momentAt 64 rfl)
    · refine z_iload C (zd tX2_momentAt 54 rfl) rfl ?_
      refine z_aload_n C (zd tX2_momentAt 55 rfl) rfl ?_
      refine gf_2_3 C ga0 zic_2 (zm zwd_91) (zd tX2_momentAt 56 rfl) ?_
      refine z_icmp_ge (tgt := 116) C Rx4 (hv.1 _ _) (zd tX2_momentAt 57 rfl) (by decide) h (fun h => ?_) (fun h => ?_)
      · refine z_iload C (zd tX2_momentAt 60 rfl) rfl ?_
        refine z_aload_n C (zd tX2_momentAt 61 rfl) rfl ?_
        refine gf_2_4 C ga0 zic_2 (zm zwd_92) (zd tX2_momentAt 62 rfl) ?_
        refine z_iadd C (zd tX2_momentAt 63 rfl) ?_
        obtain ⟨t2, et2, Rt2, h⟩ := zn_some h
        refine z_n0 (congrArg zI et2.symm) ?_
        obtain ⟨rfl, rfl⟩ := zpi h
        exact ret.1 _ _ _ _ ⟨hv, Rt2⟩ rfl rfl rfl (zd tX2_momentAt 64 rfl)
      · refine z_iload C (zd tX2_momentAt 58 rfl) rfl ?_
        refine z_goto (tgt := 123) C (zd tX2_momentAt 59 rfl) (by decide) ?_
        obtain ⟨rfl, rfl⟩ := zpi h
        exact ret.1 _ _ _ _ ⟨hv, Rx4⟩ rfl rfl rfl (zd tX2_momentAt 64 rfl)
  · refine z_iconst C (zd tX2_momentAt 48 rfl) ?_
    obtain ⟨rfl, rfl⟩ := zpi h
    exact ret.1 _ _ _ _ ⟨hv, (zR_c (-1) rfl)⟩ rfl rfl rfl (zd tX2_momentAt 49 rfl)
set_option maxRecDepth 100000 in
set_option maxHeartbeats 4000000 in
theorem qX2_momentAt (l : Launch) (D : va_G) (ids : Nat → ClassId) (b : Nat) {a0 : Nat} (k0 : zK a0 = (2, 5)) {x1 : Int} (Rx1 : zR x1) {x2 : Int} (Rx2 : zR x2) {x3 : Int} (Rx3 : zR x3) {v v' : zHp} {r' : Int} (hv : zV 0 137 v) (h : fX2_momentAt v a0 x1 x2 x3 = some (v', r')) : zCT l yX2_momentAt vsX2_momentAt rmX2_momentAt D ids b 0 False 137 [zr a0, zi x1, zi x2, zi x3] v 137 (zV 0 137 v' ∧ zR r') (some (zi r')) v' 0 0 := by
  refine zMet (own := RX2) (by decide +kernel) (show vsX2_momentAt = _ from rfl) (Nat.le_of_ble_eq_true rfl) rfl ?_
  intro E hl hRm hD hids hb ho hz hN C hname ret
  subst hl hD hids hb
  have ga0 := kg_2 ho k0
  unfold fX2_momentAt at h
  refine z_iload_n C (zd tX2_momentAt 0 rfl) rfl ?_
  refine z_if_lt (tgt := 21) C Rx1 (zd tX2_momentAt 1 rfl) (by decide) h (fun h => ?_) (fun h => ?_)
  · refine z_iconst C (zd tX2_momentAt 10 rfl) ?_
    obtain ⟨rfl, rfl⟩ := zpi h
    exact ret.1 _ _ _ _ ⟨hv, (zR_c (-1) rfl)⟩ rfl rfl rfl (zd tX2_momentAt 11 rfl)
  · refine z_iload_n C (zd tX2_momentAt 2 rfl) rfl ?_
    refine z_bipush C (by decide) (zd tX2_momentAt 3 rfl) ?_
    refine z_icmp_ge (tgt := 21) C Rx1 (zR_c 28 rfl) (zd tX2_momentAt 4 rfl) (by decide) h (fun h => ?_) (fun h => ?_)
    · refine z_iconst C (zd tX2_momentAt 10 rfl) ?_
      obtain ⟨rfl, rfl⟩ := zpi h
      exact ret.1 _ _ _ _ ⟨hv, (zR_c (-1) rfl)⟩ rfl rfl rfl (zd tX2_momentAt 11 rfl)
    · refine z_iload_n C (zd tX2_momentAt 5 rfl) rfl ?_
      refine z_if_lt (tgt := 21) C Rx2 (zd tX2_momentAt 6 rfl) (by decide) h (fun h => ?_) (fun h => ?_)
      · refine z_iconst C (zd tX2_momentAt 10 rfl) ?_
        obtain ⟨rfl, rfl⟩ := zpi h
        exact ret.1 _ _ _ _ ⟨hv, (zR_c (-1) rfl)⟩ rfl rfl rfl (zd tX2_momentAt 11 rfl)
      · refine z_iload_n C (zd tX2_momentAt 7 rfl) rfl ?_
        refine z_sipush C (by decide) (zd tX2_momentAt 8 rfl) ?_
        refine z_icmp_lt (tgt := 23) C Rx2 (zR_c 1440 rfl) (zd tX2_momentAt 9 rfl) (by decide) h (fun h => ?_) (fun h => ?_)
        · refine z_iload_n C (zd tX2_momentAt 12 rfl) rfl ?_
          refine z_sipush C (by decide) (zd tX2_momentAt 13 rfl) ?_
          refine z_imul C (zd tX2_momentAt 14 rfl) ?_
          refine z_iload_n C (zd tX2_momentAt 15 rfl) rfl ?_
          refine z_iadd C (zd tX2_momentAt 16 rfl) ?_
          obtain ⟨t1, et1, Rt1, h⟩ := zn_some h
          refine z_n0 (congrArg zI et1.symm) ?_
          refine z_istore C (zd tX2_momentAt 17 rfl) (by rw [hN]; decide) ?_
          refine z_aload_n C (zd tX2_momentAt 18 rfl) rfl ?_
          refine gf_2_2 C ga0 zic_2 (zm zwd_89) (zd tX2_momentAt 19 rfl) ?_
          refine z_iconst C (zd tX2_momentAt 20 rfl) ?_
          refine z_icmp_eq (tgt := 88) C (hv.1 _ _) (zR_c (-1) rfl) (zd tX2_momentAt 21 rfl) (by decide) h (fun h => ?_) (fun h => ?_)
          · refine z_sub (lo' := [some (zr a0), none, none, some (zi x3), some (zi t1)]) (zsub_s (zsub_n (zsub_n (zsub_s (zsub_s zsub_0))))) ?_
            exact jX2_momentAt_J88 C hN ho hz hRm ret v a0 x3 t1 h hv ga0 Rx3 Rt1
          · refine z_iload C (zd tX2_momentAt 22 rfl) rfl ?_
            refine z_aload_n C (zd tX2_momentAt 23 rfl) rfl ?_
            refine gf_2_3 C ga0 zic_2 (zm zwd_91) (zd tX2_momentAt 24 rfl) ?_
            refine z_icmp_lt (tgt := 88) C Rt1 (hv.1 _ _) (zd tX2_momentAt 25 rfl) (by decide) h (fun h => ?_) (fun h => ?_)
            · refine z_sub (lo' := [some (zr a0), none, none, some (zi x3), some (zi t1)]) (zsub_s (zsub_n (zsub_n (zsub_s (zsub_s zsub_0))))) ?_
              exact jX2_momentAt_J88 C hN ho hz hRm ret v a0 x3 t1 h hv ga0 Rx3 Rt1
            · refine z_iload C (zd tX2_momentAt 26 rfl) rfl ?_
              refine z_aload_n C (zd tX2_momentAt 27 rfl) rfl ?_
              refine gf_2_3 C ga0 zic_2 (zm zwd_91) (zd tX2_momentAt 28 rfl) ?_
              refine z_bipush C (by decide) (zd tX2_momentAt 29 rfl) ?_
              refine z_iadd C (zd tX2_momentAt 30 rfl) ?_
              obtain ⟨t3, et3, Rt3, h⟩ := zn_some h
              refine z_n0 (congrArg zI et3.symm) ?_
              refine z_icmp_ge (tgt := 88) C Rt1 Rt3 (zd tX2_momentAt 31 rfl) (by decide) h (fun h => ?_) (fun h => ?_)
              · refine z_sub (lo' := [some (zr a0), none, none, some (zi x3), some (zi t1)]) (zsub_s (zsub_n (zsub_n (zsub_s (zsub_s zsub_0))))) ?_
                exact jX2_momentAt_J88 C hN ho hz hRm ret v a0 x3 t1 h hv ga0 Rx3 Rt1
              · refine z_aload_n C (zd tX2_momentAt 32 rfl) rfl ?_
                refine gf_2_2 C ga0 zic_2 (zm zwd_89) (zd tX2_momentAt 33 rfl) ?_
                refine z_iconst C (zd tX2_momentAt 34 rfl) ?_
                refine z_icmp_ne (tgt := 73) C (hv.1 _ _) (zR_c 1 rfl) (zd tX2_momentAt 35 rfl) (by decide) h (fun h => ?_) (fun h => ?_)
                · refine z_iload_n C (zd tX2_momentAt 38 rfl) rfl ?_
                  refine z_if_eq (tgt := 85) C Rx3 (zd tX2_momentAt 39 rfl) (by decide) h (fun h => ?_) (fun h => ?_)
                  · refine z_iload C (zd tX2_momentAt 44 rfl) rfl ?_
                    obtain ⟨rfl, rfl⟩ := zpi h
                    exact ret.1 _ _ _ _ ⟨hv, Rt1⟩ rfl rfl rfl (zd tX2_momentAt 45 rfl)
                  · refine z_iload C (zd tX2_momentAt 40 rfl) rfl ?_
                    refine z_bipush C (by decide) (zd tX2_momentAt 41 rfl) ?_
                    refine z_iadd C (zd tX2_momentAt 42 rfl) ?_
                    refine z_goto (tgt := 87) C (zd tX2_momentAt 43 rfl) (by decide) ?_
                    obtain ⟨t4, et4, Rt4, h⟩ := zn_some h
                    refine z_n0 (congrArg zI et4.symm) ?_
                    obtain ⟨rfl, rfl⟩ := zpi h
                    exact ret.1 _ _ _ _ ⟨hv, Rt4⟩ rfl rfl rfl (zd tX2_momentAt 45 rfl)
                · refine z_iconst C (zd tX2_momentAt 36 rfl) ?_
                  refine z_goto (tgt := 87) C (zd tX2_momentAt 37 rfl) (by decide) ?_
                  obtain ⟨rfl, rfl⟩ := zpi h
                  exact ret.1 _ _ _ _ ⟨hv, (zR_c (-1) rfl)⟩ rfl rfl rfl (zd tX2_momentAt 45 rfl)
        · refine z_iconst C (zd tX2_momentAt 10 rfl) ?_
          obtain ⟨rfl, rfl⟩ := zpi h
          exact ret.1 _ _ _ _ ⟨hv, (zR_c (-1) rfl)⟩ rfl rfl rfl (zd tX2_momentAt 11 rfl)
noncomputable def vsX11_freeMoment : List Cond := .code yX11_freeMoment cX11_freeMoment 7 (some .int) :: zbig
abbrev rmX11_freeMoment : Room := { frames := 2, cells := 0, slots := 0, locals := 43 }
theorem pX11_freeMoment : yX11_freeMoment.cls = RX11 ∧ yX11_freeMoment.cls ≠ "java/lang/invoke/MethodHandle" ∧ yX11_freeMoment.cls ≠ "java/lang/invoke/VarHandle" ∧ (parseMethodDescriptor yX11_freeMoment.desc).map (fun d => d.parameters.length) = some 5 := by decide +kernel
set_option maxRecDepth 100000 in
set_option maxHeartbeats 4000000 in
theorem qX11_freeMoment (l : Launch) (D : va_G) (ids : Nat → ClassId) (b : Nat) {x1 : Int} (Rx1 : zR x1) {x2 : Int} (Rx2 : zR x2) {x3 : Int} (Rx3 : zR x3) {x4 : Int} (Rx4 : zR x4) {x5 : Int} (Rx5 : zR x5) {v v' : zHp} {r' : Int} (hv : zV 0 137 v) (h : fX11_freeMoment v x1 x2 x3 x4 x5 = some (v', r')) : zCT l yX11_freeMoment vsX11_freeMoment rmX11_freeMoment D ids b 0 False 137 [zr 0, zi x1, zi x2, zi x3, zi x4, zi x5] v 137 (zV 0 137 v' ∧ zR r') (some (zi r')) v' 0 0 := by
  refine zMet (own := RX11) (by decide +kernel) (show vsX11_freeMoment = _ from rfl) (Nat.le_of_ble_eq_true rfl) rfl ?_
  intro E hl hRm hD hids hb ho hz hN C hname ret
  subst hl hD hids hb
  unfold fX11_freeMoment at h
  refine z_iload_n C (zd tX11_freeMoment 0 rfl) rfl ?_
  obtain ⟨v1, r2, cv1, h⟩ := zcl_some h
  refine zc_S C ho hz hRm (qX11_isWorker _ _ _ _ Rx1 hv cv1) (zgS zwd_633 zwd_634 zwd_1 zwd_635) rfl pX11_isWorker rfl ⟨rfl, rfl⟩ ⟨Nat.le_of_ble_eq_true rfl, Nat.le_of_ble_eq_true rfl⟩ [] rfl (Nat.le_of_ble_eq_true rfl) (zd tX11_freeMoment 1 rfl) [zi r2] rfl (fun p3 => ?_)
  refine z_if_eq (tgt := 16) C p3.2 (zd tX11_freeMoment 2 rfl) (by decide) h (fun h => ?_) (fun h => ?_)
  · refine z_iconst C (zd tX11_freeMoment 8 rfl) ?_
    obtain ⟨rfl, rfl⟩ := zpi h
    exact ret.1 _ _ _ _ ⟨p3.1, (zR_c (-1) rfl)⟩ rfl rfl rfl (zd tX11_freeMoment 9 rfl)
  · refine z_iload_n C (zd tX11_freeMoment 3 rfl) rfl ?_
    refine z_if_lt (tgt := 16) C Rx2 (zd tX11_freeMoment 4 rfl) (by decide) h (fun h => ?_) (fun h => ?_)
    · refine z_iconst C (zd tX11_freeMoment 8 rfl) ?_
      obtain ⟨rfl, rfl⟩ := zpi h
      exact ret.1 _ _ _ _ ⟨p3.1, (zR_c (-1) rfl)⟩ rfl rfl rfl (zd tX11_freeMoment 9 rfl)
    · refine z_iload_n C (zd tX11_freeMoment 5 rfl) rfl ?_
      refine z_iconst C (zd tX11_freeMoment 6 rfl) ?_
      refine z_icmp_le (tgt := 18) C Rx2 (zR_c 2 rfl) (zd tX11_freeMoment 7 rfl) (by decide) h (fun h => ?_) (fun h => ?_)
      · refine z_aload_n C (zd tX11_freeMoment 10 rfl) rfl ?_
        obtain ⟨u4, eu4, h⟩ := zb_some h
        obtain ⟨q5, h⟩ := zck_some h
        have gu4 := kg_7 ho q5.2
        refine gl_11_2 C (lg_0 ho) zic_11 (zm zwd_402) (zdyn q5.1 eu4) (zd tX11_freeMoment 11 rfl) ?_
        refine gl_7_0 C gu4 zic_7 (zm zwd_151) (vl_7_0 ho p3.1 gu4) (zd tX11_freeMoment 12 rfl) ?_
        refine z_iload_n C (zd tX11_freeMoment 13 rfl) rfl ?_
        refine z_iload C (zd tX11_freeMoment 14 rfl) rfl ?_
        refine z_iload C (zd tX11_freeMoment 15 rfl) rfl ?_
        obtain ⟨v6, r7, cv6, h⟩ := zcl_some h
        refine zc_V C ho hz hRm (qX2_momentAt _ _ _ _ (lk_7_0 ho gu4).1 Rx3 Rx4 Rx5 p3.1 cv6) (lk_7_0 ho gu4) (by decide) rfl (zgV zwd_605 zwd_606 zwd_607 zwd_5 zwd_608) rfl pX2_momentAt rfl ⟨rfl, rfl⟩ ⟨Nat.le_of_ble_eq_true rfl, Nat.le_of_ble_eq_true rfl⟩ [] rfl (Nat.le_of_ble_eq_true rfl) (zd tX11_freeMoment 16 rfl) [zi r7] rfl (fun p8 => ?_)
        refine z_istore C (zd tX11_freeMoment 17 rfl) (by rw [hN]; decide) ?_
        refine z_iload C (zd tX11_freeMoment 18 rfl) rfl ?_
        refine z_iconst C (zd tX11_freeMoment 19 rfl) ?_
        refine z_icmp_eq (tgt := 55) C p8.2 (zR_c (-1) rfl) (zd tX11_freeMoment 20 rfl) (by decide) h (fun h => ?_) (fun h => ?_)
        · refine z_iconst C (zd tX11_freeMoment 28 rfl) ?_
          refine z_goto (tgt := 61) C (zd tX11_freeMoment 29 rfl) (by decide) ?_
          obtain ⟨rfl, rfl⟩ := zpi h
          exact ret.1 _ _ _ _ ⟨p8.1, (zR_c (-1) rfl)⟩ rfl rfl rfl (zd tX11_freeMoment 31 rfl)
        · refine z_aload_n C (zd tX11_freeMoment 21 rfl) rfl ?_
          refine gl_11_4 (t := 28) C (lg_0 ho) zic_11 (zm zwd_404) (vl_11_4 ho p8.1 (lg_0 ho)) (zd tX11_freeMoment 22 rfl) ?_
          refine z_iload_n C (zd tX11_freeMoment 23 rfl) rfl ?_
          obtain ⟨q9, h⟩ := zck_some h
          obtain ⟨u10, eu10, h⟩ := zb_some h
          have gu10 := ge_Card ho (lg_28 ho) q9 eu10
          refine ra_Card C ho p8.1 (lg_28 ho) q9 eu10 (zd tX11_freeMoment 24 rfl) ?_
          refine z_iload C (zd tX11_freeMoment 25 rfl) rfl ?_
          obtain ⟨v11, r12, cv11, h⟩ := zcl_some h
          refine zc_V C ho hz hRm (qX1_takes _ _ _ _ gu10.1 p8.2 p8.1 cv11) gu10 (by decide) rfl (zgV zwd_636 zwd_637 zwd_638 zwd_7 zwd_639) rfl pX1_takes rfl ⟨rfl, rfl⟩ ⟨Nat.le_of_ble_eq_true rfl, Nat.le_of_ble_eq_true rfl⟩ [] rfl (Nat.le_of_ble_eq_true rfl) (zd tX11_freeMoment 26 rfl) [zi r12] rfl (fun p13 => ?_)
          refine z_if_ne (tgt := 59) C p13.2 (zd tX11_freeMoment 27 rfl) (by decide) h (fun h => ?_) (fun h => ?_)
          · refine z_iload C (zd tX11_freeMoment 30 rfl) rfl ?_
            obtain ⟨rfl, rfl⟩ := zpi h
            exact ret.1 _ _ _ _ ⟨p13.1, p8.2⟩ rfl rfl rfl (zd tX11_freeMoment 31 rfl)
          · refine z_iconst C (zd tX11_freeMoment 28 rfl) ?_
            refine z_goto (tgt := 61) C (zd tX11_freeMoment 29 rfl) (by decide) ?_
            obtain ⟨rfl, rfl⟩ := zpi h
            exact ret.1 _ _ _ _ ⟨p13.1, (zR_c (-1) rfl)⟩ rfl rfl rfl (zd tX11_freeMoment 31 rfl)
      · refine z_iconst C (zd tX11_freeMoment 8 rfl) ?_
        obtain ⟨rfl, rfl⟩ := zpi h
        exact ret.1 _ _ _ _ ⟨p3.1, (zR_c (-1) rfl)⟩ rfl rfl rfl (zd tX11_freeMoment 9 rfl)
noncomputable def vsX1_add : List Cond := .code yX1_add cX1_add 4 none :: zbig
abbrev rmX1_add : Room := { frames := 0, cells := 0, slots := 0, locals := 0 }
theorem pX1_add : yX1_add.cls = RX1 ∧ yX1_add.cls ≠ "java/lang/invoke/MethodHandle" ∧ yX1_add.cls ≠ "java/lang/invoke/VarHandle" ∧ (parseMethodDescriptor yX1_add.desc).map (fun d => d.parameters.length) = some 2 := by decide +kernel
set_option maxRecDepth 100000 in
set_option maxHeartbeats 4000000 in
theorem bX1_add_L15 {E : zE} (C : zC E 137 cX1_add RX1 vsX1_add) (hN : zEN E = 4) (ho : zEo E = 0) (hz : zEz E = False) (hRm : zER E = rmX1_add) : ∀ (fu : Nat) (v : zHp) (a0 : Nat) (x1 : Int) (x2 : Int) (x3 : Int) (res : (zHp × (Int))), fX1_add_L15 fu v a0 x1 x2 x3 = some res → zV 0 137 v → zG E 137 a0 1 3 → zR x1 → zR x2 → zR x3 → (∀ (w : zHp) (q : Int), res = (w, q) → zV 0 137 w → zR q → zX E 0 0 137 w 65 [some (zr a0), some (zi x1), some (zi x2), some (zi q)] []) → zX E 0 0 137 v 15 [some (zr a0), some (zi x1), some (zi x2), some (zi x3)] [] := by
  intro fu
  induction fu with
  | zero =>
    intro v _ _ _ _ res h
    cases h
  | succ fu ih =>
    intro v a0 x1 x2 x3 res h hv ga0 Rx1 Rx2 Rx3 K1
    rw [fX1_add_L15.eq_2] at h
    refine z_iload_n C (zd tX1_add 8 rfl) rfl ?_
    refine z_if_le (tgt := 65) C Rx3 (zd tX1_add 9 rfl) (by decide) h (fun h => ?_) (fun h => ?_)
    · refine z_sub (lo' := [some (zr a0), some (zi x1), some (zi x2), some (zi x3)]) (zsub_s (zsub_s (zsub_s (zsub_s zsub_0)))) ?_
      exact K1 _ _ (Option.some.inj h).symm hv Rx3
    · refine z_aload_n C (zd tX1_add 10 rfl) rfl ?_
      refine gl_1_0 C ga0 zic_1 (zm zwd_215) (vl_1_0 ho hv ga0) (zd tX1_add 11 rfl) ?_
      refine z_iload_n C (zd tX1_add 12 rfl) rfl ?_
      refine z_iconst C (zd tX1_add 13 rfl) ?_
      refine z_isub C (zd tX1_add 14 rfl) ?_
      obtain ⟨q1, h⟩ := zck_some h
      refine za_iald C (lk_1_0 ho ga0) rfl (by decide) q1 (zd tX1_add 15 rfl) ?_
      refine z_iload_n C (zd tX1_add 16 rfl) rfl ?_
      refine z_icmp_le (tgt := 65) C (hv.1 _ _) Rx1 (zd tX1_add 17 rfl) (by decide) h (fun h => ?_) (fun h => ?_)
      · refine z_sub (lo' := [some (zr a0), some (zi x1), some (zi x2), some (zi x3)]) (zsub_s (zsub_s (zsub_s (zsub_s zsub_0)))) ?_
        exact K1 _ _ (Option.some.inj h).symm hv Rx3
      · refine z_aload_n C (zd tX1_add 18 rfl) rfl ?_
        refine gl_1_0 C ga0 zic_1 (zm zwd_215) (vl_1_0 ho hv ga0) (zd tX1_add 19 rfl) ?_
        refine z_iload_n C (zd tX1_add 20 rfl) rfl ?_
        refine z_aload_n C (zd tX1_add 21 rfl) rfl ?_
        refine gl_1_0 C ga0 zic_1 (zm zwd_215) (vl_1_0 ho hv ga0) (zd tX1_add 22 rfl) ?_
        refine z_iload_n C (zd tX1_add 23 rfl) rfl ?_
        refine z_iconst C (zd tX1_add 24 rfl) ?_
        refine z_isub C (zd tX1_add 25 rfl) ?_
        obtain ⟨q2, h⟩ := zck_some h
        refine za_iald C (lk_1_0 ho ga0) rfl (by decide) q2 (zd tX1_add 26 rfl) ?_
        obtain ⟨q3, h⟩ := zck_some h
        obtain ⟨v4, ev4, h⟩ := zb_some h
        have hv4 : zV 0 137 v4 := by rw [ev4]; exact hv.st (hv.1 _ _) (lk_1_0 ho ga0).1 (Or.inr rfl)
        refine za_iast C (lk_1_0 ho ga0) rfl (by decide) q3 ev4 (zd tX1_add 27 rfl) ?_
        refine z_aload_n C (zd tX1_add 28 rfl) rfl ?_
        refine gl_1_1 C ga0 zic_1 (zm zwd_218) (vl_1_1 ho hv4 ga0) (zd tX1_add 29 rfl) ?_
        refine z_iload_n C (zd tX1_add 30 rfl) rfl ?_
        refine z_aload_n C (zd tX1_add 31 rfl) rfl ?_
        refine gl_1_1 C ga0 zic_1 (zm zwd_218) (vl_1_1 ho hv4 ga0) (zd tX1_add 32 rfl) ?_
        refine z_iload_n C (zd tX1_add 33 rfl) rfl ?_
        refine z_iconst C (zd tX1_add 34 rfl) ?_
        refine z_isub C (zd tX1_add 35 rfl) ?_
        obtain ⟨q5, h⟩ := zck_some h
        refine za_iald C (lk_1_1 ho ga0) rfl (by decide) q5 (zd tX1_add 36 rfl) ?_
        obtain ⟨q6, h⟩ := zck_some h
        obtain ⟨v7, ev7, h⟩ := zb_some h
        have hv7 : zV 0 137 v7 := by rw [ev7]; exact hv4.st (hv4.1 _ _) (lk_1_1 ho ga0).1 (Or.inr rfl)
        refine za_iast C (lk_1_1 ho ga0) rfl (by decide) q6 ev7 (zd tX1_add 37 rfl) ?_
        obtain ⟨t8, et8, Rt8, h⟩ := zn_some h
        refine z_iincE C (zd tX1_add 38 rfl) (by rw [hN]; decide) rfl et8 ?_
        refine z_goto (tgt := 15) C (zd tX1_add 39 rfl) (by decide) ?_
        refine z_sub (lo' := [some (zr a0), some (zi x1), some (zi x2), some (zi t8)]) (zsub_s (zsub_s (zsub_s (zsub_s zsub_0)))) ?_
        exact ih v7 a0 x1 x2 t8 _ h hv7 ga0 Rx1 Rx2 Rt8 K1
set_option maxRecDepth 100000 in
set_option maxHeartbeats 4000000 in
theorem qX1_add (l : Launch) (D : va_G) (ids : Nat → ClassId) (b : Nat) {a0 : Nat} (k0 : zK a0 = (1, 3)) {x1 : Int} (Rx1 : zR x1) {x2 : Int} (Rx2 : zR x2) {v v' : zHp} {r' : Int} (hv : zV 0 137 v) (h : fX1_add v a0 x1 x2 = some (v', r')) : zCT l yX1_add vsX1_add rmX1_add D ids b 0 False 137 [zr a0, zi x1, zi x2] v 137 (zV 0 137 v') none v' 0 0 := by
  refine zMet (own := RX1) (by decide +kernel) (show vsX1_add = _ from rfl) (Nat.le_of_ble_eq_true rfl) rfl ?_
  intro E hl hRm hD hids hb ho hz hN C hname ret
  subst hl hD hids hb
  have ga0 := kg_1 ho k0
  unfold fX1_add at h
  refine z_aload_n C (zd tX1_add 0 rfl) rfl ?_
  refine gf_1_2 C ga0 zic_1 (zm zwd_221) (zd tX1_add 1 rfl) ?_
  refine z_bipush C (by decide) (zd tX1_add 2 rfl) ?_
  refine z_icmp_lt (tgt := 10) C (hv.1 _ _) (zR_c 60 rfl) (zd tX1_add 3 rfl) (by decide) h (fun h => ?_) (fun h => ?_)
  · refine z_aload_n C (zd tX1_add 5 rfl) rfl ?_
    refine gf_1_2 C ga0 zic_1 (zm zwd_221) (zd tX1_add 6 rfl) ?_
    refine z_istore_n C (zd tX1_add 7 rfl) (by rw [hN]; decide) ?_
    refine z_sub (lo' := [some (zr a0), some (zi x1), some (zi x2), some (zi (v a0 2))]) (zsub_s (zsub_s (zsub_s (zsub_s zsub_0)))) ?_
    obtain ⟨v9, w10, lv9, h⟩ := zl_some h
    refine bX1_add_L15 C hN ho hz hRm zFU v a0 x1 x2 (v a0 2) _ lv9 hv ga0 Rx1 Rx2 (hv.1 _ _) (fun w1 q1 e1 hv9 Rw10 => ?_)
    obtain ⟨rfl, rfl⟩ := zpp e1
    refine z_aload_n C (zd tX1_add 40 rfl) rfl ?_
    refine gl_1_0 C ga0 zic_1 (zm zwd_215) (vl_1_0 ho hv9 ga0) (zd tX1_add 41 rfl) ?_
    refine z_iload_n C (zd tX1_add 42 rfl) rfl ?_
    refine z_iload_n C (zd tX1_add 43 rfl) rfl ?_
    obtain ⟨q11, h⟩ := zck_some h
    obtain ⟨v12, ev12, h⟩ := zb_some h
    have hv12 : zV 0 137 v12 := by rw [ev12]; exact hv9.st Rx1 (lk_1_0 ho ga0).1 (Or.inr rfl)
    refine za_iast C (lk_1_0 ho ga0) rfl (by decide) q11 ev12 (zd tX1_add 44 rfl) ?_
    refine z_aload_n C (zd tX1_add 45 rfl) rfl ?_
    refine gl_1_1 C ga0 zic_1 (zm zwd_218) (vl_1_1 ho hv12 ga0) (zd tX1_add 46 rfl) ?_
    refine z_iload_n C (zd tX1_add 47 rfl) rfl ?_
    refine z_iload_n C (zd tX1_add 48 rfl) rfl ?_
    obtain ⟨q13, h⟩ := zck_some h
    obtain ⟨v14, ev14, h⟩ := zb_some h
    have hv14 : zV 0 137 v14 := by rw [ev14]; exact hv12.st Rx2 (lk_1_1 ho ga0).1 (Or.inr rfl)
    refine za_iast C (lk_1_1 ho ga0) rfl (by decide) q13 ev14 (zd tX1_add 49 rfl) ?_
    refine z_aload_n C (zd tX1_add 50 rfl) rfl ?_
    refine z_dup C (zd tX1_add 51 rfl) ?_
    refine gf_1_2 C ga0 zic_1 (zm zwd_221) (zd tX1_add 52 rfl) ?_
    refine z_iconst C (zd tX1_add 53 rfl) ?_
    refine z_iadd C (zd tX1_add 54 rfl) ?_
    obtain ⟨t15, et15, Rt15, h⟩ := zn_some h
    refine z_n0 (congrArg zI et15.symm) ?_
    obtain ⟨v16, ev16, h⟩ := zb_some h
    have hv16 : zV 0 137 v16 := by rw [ev16]; exact hv14.st Rt15 ga0.1 (Or.inr rfl)
    refine pf_1_2 C ga0 zic_1 (zm zwd_221) ev16 (zd tX1_add 55 rfl) ?_
    obtain ⟨rfl, rfl⟩ := zpi h
    exact ret.2.1 _ _ hv16 rfl rfl (zd tX1_add 56 rfl)
  · obtain ⟨rfl, rfl⟩ := zpi h
    exact ret.2.1 _ _ hv rfl rfl (zd tX1_add 4 rfl)
noncomputable def vsX1_copy : List Cond := .code yX1_copy cX1_copy 3 none :: zbig
abbrev rmX1_copy : Room := { frames := 0, cells := 0, slots := 0, locals := 0 }
theorem pX1_copy : yX1_copy.cls = RX1 ∧ yX1_copy.cls ≠ "java/lang/invoke/MethodHandle" ∧ yX1_copy.cls ≠ "java/lang/invoke/VarHandle" ∧ (parseMethodDescriptor yX1_copy.desc).map (fun d => d.parameters.length) = some 1 := by decide +kernel
set_option maxRecDepth 100000 in
set_option maxHeartbeats 4000000 in
theorem bX1_copy_L10 {E : zE} (C : zC E 137 cX1_copy RX1 vsX1_copy) (hN : zEN E = 3) (ho : zEo E = 0) (hz : zEz E = False) (hRm : zER E = rmX1_copy) : ∀ (fu : Nat) (v : zHp) (a0 : Nat) (a1 : Nat) (x2 : Int) (res : (zHp × (Int))), fX1_copy_L10 fu v a0 a1 x2 = some res → zV 0 137 v → zG E 137 a0 1 3 → zG E 137 a1 1 3 → zR x2 → (∀ (w : zHp) (q : Int), res = (w, q) → zV 0 137 w → True → zX E 0 0 137 w 48 [none, none, none] []) → zX E 0 0 137 v 10 [some (zr a0), some (zr a1), some (zi x2)] [] := by
  intro fu
  induction fu with
  | zero =>
    intro v _ _ _ res h
    cases h
  | succ fu ih =>
    intro v a0 a1 x2 res h hv ga0 ga1 Rx2 K1
    rw [fX1_copy_L10.eq_2] at h
    refine z_iload_n C (zd tX1_copy 6 rfl) rfl ?_
    refine z_aload_n C (zd tX1_copy 7 rfl) rfl ?_
    refine gf_1_2 C ga0 zic_1 (zm zwd_221) (zd tX1_copy 8 rfl) ?_
    refine z_icmp_ge (tgt := 48) C Rx2 (hv.1 _ _) (zd tX1_copy 9 rfl) (by decide) h (fun h => ?_) (fun h => ?_)
    · refine z_sub (lo' := [none, none, none]) (zsub_n (zsub_n (zsub_n zsub_0))) ?_
      exact K1 _ _ (Option.some.inj h).symm hv trivial
    · refine z_aload_n C (zd tX1_copy 10 rfl) rfl ?_
      refine gl_1_0 C ga0 zic_1 (zm zwd_215) (vl_1_0 ho hv ga0) (zd tX1_copy 11 rfl) ?_
      refine z_iload_n C (zd tX1_copy 12 rfl) rfl ?_
      refine z_aload_n C (zd tX1_copy 13 rfl) rfl ?_
      refine gl_1_0 C ga1 zic_1 (zm zwd_215) (vl_1_0 ho hv ga1) (zd tX1_copy 14 rfl) ?_
      refine z_iload_n C (zd tX1_copy 15 rfl) rfl ?_
      obtain ⟨q2, h⟩ := zck_some h
      refine za_iald C (lk_1_0 ho ga1) rfl (by decide) q2 (zd tX1_copy 16 rfl) ?_
      obtain ⟨q3, h⟩ := zck_some h
      obtain ⟨v4, ev4, h⟩ := zb_some h
      have hv4 : zV 0 137 v4 := by rw [ev4]; exact hv.st (hv.1 _ _) (lk_1_0 ho ga0).1 (Or.inr rfl)
      refine za_iast C (lk_1_0 ho ga0) rfl (by decide) q3 ev4 (zd tX1_copy 17 rfl) ?_
      refine z_aload_n C (zd tX1_copy 18 rfl) rfl ?_
      refine gl_1_1 C ga0 zic_1 (zm zwd_218) (vl_1_1 ho hv4 ga0) (zd tX1_copy 19 rfl) ?_
      refine z_iload_n C (zd tX1_copy 20 rfl) rfl ?_
      refine z_aload_n C (zd tX1_copy 21 rfl) rfl ?_
      refine gl_1_1 C ga1 zic_1 (zm zwd_218) (vl_1_1 ho hv4 ga1) (zd tX1_copy 22 rfl) ?_
      refine z_iload_n C (zd tX1_copy 23 rfl) rfl ?_
      obtain ⟨q5, h⟩ := zck_some h
      refine za_iald C (lk_1_1 ho ga1) rfl (by decide) q5 (zd tX1_copy 24 rfl) ?_
      obtain ⟨q6, h⟩ := zck_some h
      obtain ⟨v7, ev7, h⟩ := zb_some h
      have hv7 : zV 0 137 v7 := by rw [ev7]; exact hv4.st (hv4.1 _ _) (lk_1_1 ho ga0).1 (Or.inr rfl)
      refine za_iast C (lk_1_1 ho ga0) rfl (by decide) q6 ev7 (zd tX1_copy 25 rfl) ?_
      obtain ⟨t8, et8, Rt8, h⟩ := zn_some h
      refine z_iincE C (zd tX1_copy 26 rfl) (by rw [hN]; decide) rfl et8 ?_
      refine z_goto (tgt := 10) C (zd tX1_copy 27 rfl) (by decide) ?_
      refine z_sub (lo' := [some (zr a0), some (zr a1), some (zi t8)]) (zsub_s (zsub_s (zsub_s zsub_0))) ?_
      exact ih v7 a0 a1 t8 _ h hv7 ga0 ga1 Rt8 K1
set_option maxRecDepth 100000 in
set_option maxHeartbeats 4000000 in
theorem qX1_copy (l : Launch) (D : va_G) (ids : Nat → ClassId) (b : Nat) {a0 : Nat} (k0 : zK a0 = (1, 3)) {a1 : Nat} (k1 : zK a1 = (1, 3)) {v v' : zHp} {r' : Int} (hv : zV 0 137 v) (h : fX1_copy v a0 a1 = some (v', r')) : zCT l yX1_copy vsX1_copy rmX1_copy D ids b 0 False 137 [zr a0, zr a1] v 137 (zV 0 137 v') none v' 0 0 := by
  refine zMet (own := RX1) (by decide +kernel) (show vsX1_copy = _ from rfl) (Nat.le_of_ble_eq_true rfl) rfl ?_
  intro E hl hRm hD hids hb ho hz hN C hname ret
  subst hl hD hids hb
  have ga0 := kg_1 ho k0
  have ga1 := kg_1 ho k1
  unfold fX1_copy at h
  refine z_aload_n C (zd tX1_copy 0 rfl) rfl ?_
  refine z_aload_n C (zd tX1_copy 1 rfl) rfl ?_
  refine gf_1_2 C ga1 zic_1 (zm zwd_221) (zd tX1_copy 2 rfl) ?_
  obtain ⟨v1, ev1, h⟩ := zb_some h
  have hv1 : zV 0 137 v1 := by rw [ev1]; exact hv.st (hv.1 _ _) ga0.1 (Or.inr rfl)
  refine pf_1_2 C ga0 zic_1 (zm zwd_221) ev1 (zd tX1_copy 3 rfl) ?_
  refine z_iconst C (zd tX1_copy 4 rfl) ?_
  refine z_istore_n C (zd tX1_copy 5 rfl) (by rw [hN]; decide) ?_
  refine z_sub (lo' := [some (zr a0), some (zr a1), some (zi 0)]) (zsub_s (zsub_s (zsub_s zsub_0))) ?_
  obtain ⟨v9, w10, lv9, h⟩ := zl_some h
  refine bX1_copy_L10 C hN ho hz hRm zFU v1 a0 a1 0 _ lv9 hv1 ga0 ga1 (zR_c 0 rfl) (fun w1 q1 e1 hv9 Rw10 => ?_)
  obtain ⟨rfl, rfl⟩ := zpp e1
  obtain ⟨rfl, rfl⟩ := zpi h
  exact ret.2.1 _ _ hv9 rfl rfl (zd tX1_copy 28 rfl)
noncomputable def vsX8_allPay : List Cond := .code yX8_allPay cX8_allPay 3 (some .int) :: zbig
abbrev rmX8_allPay : Room := { frames := 0, cells := 0, slots := 0, locals := 0 }
theorem pX8_allPay : yX8_allPay.cls = RX8 ∧ yX8_allPay.cls ≠ "java/lang/invoke/MethodHandle" ∧ yX8_allPay.cls ≠ "java/lang/invoke/VarHandle" ∧ (parseMethodDescriptor yX8_allPay.desc).map (fun d => d.parameters.length) = some 0 := by decide +kernel
set_option maxRecDepth 100000 in
set_option maxHeartbeats 4000000 in
theorem bX8_allPay_L4 {E : zE} (C : zC E 137 cX8_allPay RX8 vsX8_allPay) (hN : zEN E = 3) (ho : zEo E = 0) (hz : zEz E = False) (hRm : zER E = rmX8_allPay) : ∀ (fu : Nat) (v : zHp) (a0 : Nat) (x1 : Int) (x2 : Int) (res : (zHp × (Int))), fX8_allPay_L4 fu v a0 x1 x2 = some res → zV 0 137 v → zG E 137 a0 8 14 → zR x1 → zR x2 → (∀ (w : zHp) (q : Int), res = (w, q) → zV 0 137 w → zR q → zX E 0 0 137 w 24 [none, some (zi q), none] []) → zX E 0 0 137 v 4 [some (zr a0), some (zi x1), some (zi x2)] [] := by
  intro fu
  induction fu with
  | zero =>
    intro v _ _ _ res h
    cases h
  | succ fu ih =>
    intro v a0 x1 x2 res h hv ga0 Rx1 Rx2 K1
    rw [fX8_allPay_L4.eq_2] at h
    refine z_iload_n C (zd tX8_allPay 4 rfl) rfl ?_
    refine z_iconst C (zd tX8_allPay 5 rfl) ?_
    refine z_icmp_ge (tgt := 24) C Rx2 (zR_c 4 rfl) (zd tX8_allPay 6 rfl) (by decide) h (fun h => ?_) (fun h => ?_)
    · refine z_sub (lo' := [none, some (zi x1), none]) (zsub_n (zsub_s (zsub_n zsub_0))) ?_
      exact K1 _ _ (Option.some.inj h).symm hv Rx1
    · refine z_iload_n C (zd tX8_allPay 7 rfl) rfl ?_
      refine z_aload_n C (zd tX8_allPay 8 rfl) rfl ?_
      refine gl_8_11 C ga0 zic_8 (zm zwd_276) (vl_8_11 ho hv ga0) (zd tX8_allPay 9 rfl) ?_
      refine z_iload_n C (zd tX8_allPay 10 rfl) rfl ?_
      obtain ⟨q1, h⟩ := zck_some h
      refine za_iald C (lk_8_11 ho ga0) rfl (by decide) q1 (zd tX8_allPay 11 rfl) ?_
      refine z_iadd C (zd tX8_allPay 12 rfl) ?_
      obtain ⟨t2, et2, Rt2, h⟩ := zn_some h
      refine z_n0 (congrArg zI et2.symm) ?_
      refine z_istore_n C (zd tX8_allPay 13 rfl) (by rw [hN]; decide) ?_
      obtain ⟨t3, et3, Rt3, h⟩ := zn_some h
      refine z_iincE C (zd tX8_allPay 14 rfl) (by rw [hN]; decide) rfl et3 ?_
      refine z_goto (tgt := 4) C (zd tX8_allPay 15 rfl) (by decide) ?_
      refine z_sub (lo' := [some (zr a0), some (zi t2), some (zi t3)]) (zsub_s (zsub_s (zsub_s zsub_0))) ?_
      exact ih v a0 t2 t3 _ h hv ga0 Rt2 Rt3 K1
set_option maxRecDepth 100000 in
set_option maxHeartbeats 4000000 in
theorem qX8_allPay (l : Launch) (D : va_G) (ids : Nat → ClassId) (b : Nat) {a0 : Nat} (k0 : zK a0 = (8, 14)) {v v' : zHp} {r' : Int} (hv : zV 0 137 v) (h : fX8_allPay v a0 = some (v', r')) : zCT l yX8_allPay vsX8_allPay rmX8_allPay D ids b 0 False 137 [zr a0] v 137 (zV 0 137 v' ∧ zR r') (some (zi r')) v' 0 0 := by
  refine zMet (own := RX8) (by decide +kernel) (show vsX8_allPay = _ from rfl) (Nat.le_of_ble_eq_true rfl) rfl ?_
  intro E hl hRm hD hids hb ho hz hN C hname ret
  subst hl hD hids hb
  have ga0 := kg_8 ho k0
  unfold fX8_allPay at h
  refine z_iconst C (zd tX8_allPay 0 rfl) ?_
  refine z_istore_n C (zd tX8_allPay 1 rfl) (by rw [hN]; decide) ?_
  refine z_iconst C (zd tX8_allPay 2 rfl) ?_
  refine z_istore_n C (zd tX8_allPay 3 rfl) (by rw [hN]; decide) ?_
  refine z_sub (lo' := [some (zr a0), some (zi 0), some (zi 0)]) (zsub_s (zsub_s (zsub_s zsub_0))) ?_
  obtain ⟨v4, w5, lv4, h⟩ := zl_some h
  refine bX8_allPay_L4 C hN ho hz hRm zFU v a0 0 0 _ lv4 hv ga0 (zR_c 0 rfl) (zR_c 0 rfl) (fun w1 q1 e1 hv4 Rw5 => ?_)
  obtain ⟨rfl, rfl⟩ := zpp e1
  refine z_iload_n C (zd tX8_allPay 16 rfl) rfl ?_
  obtain ⟨rfl, rfl⟩ := zpi h
  exact ret.1 _ _ _ _ ⟨hv4, Rw5⟩ rfl rfl rfl (zd tX8_allPay 17 rfl)
noncomputable def vsX11_payWith : List Cond := .code yX11_payWith cX11_payWith 4 (some .int) :: zbig
abbrev rmX11_payWith : Room := { frames := 6, cells := 0, slots := 0, locals := 164 }
theorem pX11_payWith : yX11_payWith.cls = RX11 ∧ yX11_payWith.cls ≠ "java/lang/invoke/MethodHandle" ∧ yX11_payWith.cls ≠ "java/lang/invoke/VarHandle" ∧ (parseMethodDescriptor yX11_payWith.desc).map (fun d => d.parameters.length) = some 3 := by decide +kernel
set_option maxRecDepth 100000 in
set_option maxHeartbeats 4000000 in
theorem qX11_payWith (l : Launch) (D : va_G) (ids : Nat → ClassId) (b : Nat) {x1 : Int} (Rx1 : zR x1) {x2 : Int} (Rx2 : zR x2) {x3 : Int} (Rx3 : zR x3) {v v' : zHp} {r' : Int} (hv : zV 0 137 v) (h : fX11_payWith v x1 x2 x3 = some (v', r')) : zCT l yX11_payWith vsX11_payWith rmX11_payWith D ids b 0 False 137 [zr 0, zi x1, zi x2, zi x3] v 137 (zV 0 137 v' ∧ zR r') (some (zi r')) v' 0 0 := by
  refine zMet (own := RX11) (by decide +kernel) (show vsX11_payWith = _ from rfl) (Nat.le_of_ble_eq_true rfl) rfl ?_
  intro E hl hRm hD hids hb ho hz hN C hname ret
  subst hl hD hids hb
  unfold fX11_payWith at h
  refine z_aload_n C (zd tX11_payWith 0 rfl) rfl ?_
  refine gl_11_7 (t := 107) C (lg_0 ho) zic_11 (zm zwd_407) (vl_11_7 ho hv (lg_0 ho)) (zd tX11_payWith 1 rfl) ?_
  refine z_aload_n C (zd tX11_payWith 2 rfl) rfl ?_
  refine gl_11_4 (t := 28) C (lg_0 ho) zic_11 (zm zwd_404) (vl_11_4 ho hv (lg_0 ho)) (zd tX11_payWith 3 rfl) ?_
  refine z_iload_n C (zd tX11_payWith 4 rfl) rfl ?_
  obtain ⟨q1, h⟩ := zck_some h
  obtain ⟨u2, eu2, h⟩ := zb_some h
  have gu2 := ge_Card ho (lg_28 ho) q1 eu2
  refine ra_Card C ho hv (lg_28 ho) q1 eu2 (zd tX11_payWith 5 rfl) ?_
  obtain ⟨v3, r4, cv3, h⟩ := zcl_some h
  refine zc_V C ho hz hRm (qX1_copy _ _ _ _ (lg_107 ho).1 gu2.1 hv cv3) (lg_107 ho) (by decide) rfl (zgV zwd_869 zwd_870 zwd_871 zwd_7 zwd_872) rfl pX1_copy rfl ⟨rfl, rfl⟩ ⟨Nat.le_of_ble_eq_true rfl, Nat.le_of_ble_eq_true rfl⟩ [] rfl (Nat.le_of_ble_eq_true rfl) (zd tX11_payWith 6 rfl) [] rfl (fun p5 => ?_)
  refine z_aload_n C (zd tX11_payWith 7 rfl) rfl ?_
  refine gl_11_7 (t := 107) C (lg_0 ho) zic_11 (zm zwd_407) (vl_11_7 ho p5 (lg_0 ho)) (zd tX11_payWith 8 rfl) ?_
  refine z_iload_n C (zd tX11_payWith 9 rfl) rfl ?_
  refine z_iload_n C (zd tX11_payWith 10 rfl) rfl ?_
  obtain ⟨v6, r7, cv6, h⟩ := zcl_some h
  refine zc_V C ho hz hRm (qX1_add _ _ _ _ (lg_107 ho).1 Rx3 Rx2 p5 cv6) (lg_107 ho) (by decide) rfl (zgV zwd_644 zwd_645 zwd_646 zwd_7 zwd_647) rfl pX1_add rfl ⟨rfl, rfl⟩ ⟨Nat.le_of_ble_eq_true rfl, Nat.le_of_ble_eq_true rfl⟩ [] rfl (Nat.le_of_ble_eq_true rfl) (zd tX11_payWith 11 rfl) [] rfl (fun p8 => ?_)
  refine z_aload_n C (zd tX11_payWith 12 rfl) rfl ?_
  refine gl_11_8 (t := 110) C (lg_0 ho) zic_11 (zm zwd_408) (vl_11_8 ho p8 (lg_0 ho)) (zd tX11_payWith 13 rfl) ?_
  refine z_aload_n C (zd tX11_payWith 14 rfl) rfl ?_
  refine gl_11_7 (t := 107) C (lg_0 ho) zic_11 (zm zwd_407) (vl_11_7 ho p8 (lg_0 ho)) (zd tX11_payWith 15 rfl) ?_
  refine z_aload_n C (zd tX11_payWith 16 rfl) rfl ?_
  obtain ⟨u9, eu9, h⟩ := zb_some h
  obtain ⟨q10, h⟩ := zck_some h
  have gu9 := kg_7 ho q10.2
  refine gl_11_2 C (lg_0 ho) zic_11 (zm zwd_402) (zdyn q10.1 eu9) (zd tX11_payWith 17 rfl) ?_
  refine z_sipush C (by decide) (zd tX11_payWith 18 rfl) ?_
  refine z_aload_n C (zd tX11_payWith 19 rfl) rfl ?_
  refine gl_11_9 (t := 125) C (lg_0 ho) zic_11 (zm zwd_409) (vl_11_9 ho p8 (lg_0 ho)) (zd tX11_payWith 20 rfl) ?_
  obtain ⟨v11, r12, cv11, h⟩ := zcl_some h
  refine zc_V C ho hz hRm (qX8_renew _ _ _ _ (lg_110 ho).1 (lg_107 ho).1 gu9.1 (zR_c 255 rfl) p8 cv11) (lg_110 ho) (by decide) rfl (zgV zwd_677 zwd_678 zwd_679 zwd_8 zwd_680) rfl pX8_renew rfl ⟨rfl, rfl⟩ ⟨Nat.le_of_ble_eq_true rfl, Nat.le_of_ble_eq_true rfl⟩ [] rfl (Nat.le_of_ble_eq_true rfl) (zd tX11_payWith 21 rfl) [] rfl (fun p13 => ?_)
  refine z_aload_n C (zd tX11_payWith 22 rfl) rfl ?_
  refine gl_11_8 (t := 110) C (lg_0 ho) zic_11 (zm zwd_408) (vl_11_8 ho p13 (lg_0 ho)) (zd tX11_payWith 23 rfl) ?_
  obtain ⟨v14, r15, cv14, h⟩ := zcl_some h
  refine zc_V C ho hz hRm (qX8_allPay _ _ _ _ (lg_110 ho).1 p13 cv14) (lg_110 ho) (by decide) rfl (zgV zwd_856 zwd_857 zwd_858 zwd_8 zwd_859) rfl pX8_allPay rfl ⟨rfl, rfl⟩ ⟨Nat.le_of_ble_eq_true rfl, Nat.le_of_ble_eq_true rfl⟩ [] rfl (Nat.le_of_ble_eq_true rfl) (zd tX11_payWith 24 rfl) [zi r15] rfl (fun p16 => ?_)
  obtain ⟨rfl, rfl⟩ := zpi h
  exact ret.1 _ _ _ _ ⟨p16.1, p16.2⟩ rfl rfl rfl (zd tX11_payWith 25 rfl)
noncomputable def vsX11_dearest : List Cond := .code yX11_dearest cX11_dearest 9 (some .int) :: zbig
abbrev rmX11_dearest : Room := { frames := 7, cells := 0, slots := 0, locals := 187 }
theorem pX11_dearest : yX11_dearest.cls = RX11 ∧ yX11_dearest.cls ≠ "java/lang/invoke/MethodHandle" ∧ yX11_dearest.cls ≠ "java/lang/invoke/VarHandle" ∧ (parseMethodDescriptor yX11_dearest.desc).map (fun d => d.parameters.length) = some 3 := by decide +kernel
set_option maxRecDepth 100000 in
set_option maxHeartbeats 4000000 in
theorem jX11_dearest_J58 {E : zE} (C : zC E 137 cX11_dearest RX11 vsX11_dearest) (hN : zEN E = 9) (ho : zEo E = 0) (hz : zEz E = False) (hRm : zER E = rmX11_dearest) (rc : zHp → Int → Int → Int → Int → Int → Int → Option (zHp × (Int))) (res : (zHp × (Int))) (v : zHp) (x1 : Int) (x2 : Int) (x3 : Int) (x6 : Int) (x8 : Int) (K1 : ∀ (w : zHp) (q : Int), res = (w, q) → zV 0 137 w → zR q → zX E 0 0 137 w 72 [none, none, none, none, some (zi q), none, none, none, none] []) (hrc0 : True) (h : fX11_dearest_J58 rc v x1 x2 x3 x6 x8 = some res) (hv : zV 0 137 v) (Rx1 : zR x1) (Rx2 : zR x2) (Rx3 : zR x3) (Rx6 : zR x6) (Rx8 : zR x8) (hrc : ∀ (v : zHp) (z4 : Int) (z5 : Int) (z6 : Int), rc v x1 x2 x3 z4 z5 z6 = some res → zV 0 137 v → zR z4 → zR z5 → zR z6 → zX E 0 0 137 v 9 [some (zr 0), some (zi x1), some (zi x2), some (zi x3), some (zi z4), some (zi z5), some (zi z6), none, none] []): zX E 0 0 137 v 58 [some (zr 0), some (zi x1), some (zi x2), some (zi x3), none, none, some (zi x6), none, some (zi x8)] [] := by
  unfold fX11_dearest_J58 at h
  refine z_iload C (zd tX11_dearest 32 rfl) rfl ?_
  refine z_istore C (zd tX11_dearest 33 rfl) (by rw [hN]; decide) ?_
  refine z_iload C (zd tX11_dearest 34 rfl) rfl ?_
  refine z_istore C (zd tX11_dearest 35 rfl) (by rw [hN]; decide) ?_
  obtain ⟨t8, et8, Rt8, h⟩ := zn_some h
  refine z_iincE C (zd tX11_dearest 36 rfl) (by rw [hN]; decide) rfl et8 ?_
  refine z_goto (tgt := 9) C (zd tX11_dearest 37 rfl) (by decide) ?_
  refine z_sub (lo' := [some (zr 0), some (zi x1), some (zi x2), some (zi x3), some (zi x6), some (zi x8), some (zi t8), none, none]) (zsub_s (zsub_s (zsub_s (zsub_s (zsub_s (zsub_s (zsub_s (zsub_n (zsub_n zsub_0))))))))) ?_
  exact hrc v x6 x8 t8 h hv Rx6 Rx8 Rt8
set_option maxRecDepth 100000 in
set_option maxHeartbeats 4000000 in
theorem bX11_dearest_L9 {E : zE} (C : zC E 137 cX11_dearest RX11 vsX11_dearest) (hN : zEN E = 9) (ho : zEo E = 0) (hz : zEz E = False) (hRm : zER E = rmX11_dearest) : ∀ (fu : Nat) (v : zHp) (x1 : Int) (x2 : Int) (x3 : Int) (x4 : Int) (x5 : Int) (x6 : Int) (res : (zHp × (Int))), fX11_dearest_L9 fu v x1 x2 x3 x4 x5 x6 = some res → zV 0 137 v → zR x1 → zR x2 → zR x3 → zR x4 → zR x5 → zR x6 → (∀ (w : zHp) (q : Int), res = (w, q) → zV 0 137 w → zR q → zX E 0 0 137 w 72 [none, none, none, none, some (zi q), none, none, none, none] []) → zX E 0 0 137 v 9 [some (zr 0), some (zi x1), some (zi x2), some (zi x3), some (zi x4), some (zi x5), some (zi x6), none, none] [] := by
  intro fu
  induction fu with
  | zero =>
    intro v _ _ _ _ _ _ res h
    cases h
  | succ fu ih =>
    intro v x1 x2 x3 x4 x5 x6 res h hv Rx1 Rx2 Rx3 Rx4 Rx5 Rx6 K1
    rw [fX11_dearest_L9.eq_2] at h
    refine z_iload C (zd tX11_dearest 6 rfl) rfl ?_
    refine z_sipush C (by decide) (zd tX11_dearest 7 rfl) ?_
    refine z_icmp_ge (tgt := 72) C Rx6 (zR_c 1440 rfl) (zd tX11_dearest 8 rfl) (by decide) h (fun h => ?_) (fun h => ?_)
    · refine z_sub (lo' := [none, none, none, none, some (zi x4), none, none, none, none]) (zsub_n (zsub_n (zsub_n (zsub_n (zsub_s (zsub_n (zsub_n (zsub_n (zsub_n zsub_0))))))))) ?_
      exact K1 _ _ (Option.some.inj h).symm hv Rx4
    · refine z_aload_n C (zd tX11_dearest 9 rfl) rfl ?_
      refine z_iload_n C (zd tX11_dearest 10 rfl) rfl ?_
      refine z_iload_n C (zd tX11_dearest 11 rfl) rfl ?_
      refine z_iload_n C (zd tX11_dearest 12 rfl) rfl ?_
      refine z_iload C (zd tX11_dearest 13 rfl) rfl ?_
      refine z_iconst C (zd tX11_dearest 14 rfl) ?_
      obtain ⟨v1, r2, cv1, h⟩ := zcl_some h
      refine zc_V C ho hz hRm (qX11_freeMoment _ _ _ _ Rx1 Rx2 Rx3 Rx6 (zR_c 0 rfl) hv cv1) (lg_0 ho) (by decide) rfl (zgV zwd_629 zwd_631 zws_10 zwd_1 zwd_632) rfl pX11_freeMoment rfl ⟨rfl, rfl⟩ ⟨Nat.le_of_ble_eq_true rfl, Nat.le_of_ble_eq_true rfl⟩ [] rfl (Nat.le_of_ble_eq_true rfl) (zd tX11_dearest 15 rfl) [zi r2] rfl (fun p3 => ?_)
      refine z_istore C (zd tX11_dearest 16 rfl) (by rw [hN]; decide) ?_
      refine z_iload C (zd tX11_dearest 17 rfl) rfl ?_
      refine z_iconst C (zd tX11_dearest 18 rfl) ?_
      refine z_icmp_eq (tgt := 66) C p3.2 (zR_c (-1) rfl) (zd tX11_dearest 19 rfl) (by decide) h (fun h => ?_) (fun h => ?_)
      · obtain ⟨t4, et4, Rt4, h⟩ := zn_some h
        refine z_iincE C (zd tX11_dearest 36 rfl) (by rw [hN]; decide) rfl et4 ?_
        refine z_goto (tgt := 9) C (zd tX11_dearest 37 rfl) (by decide) ?_
        refine z_sub (lo' := [some (zr 0), some (zi x1), some (zi x2), some (zi x3), some (zi x4), some (zi x5), some (zi t4), none, none]) (zsub_s (zsub_s (zsub_s (zsub_s (zsub_s (zsub_s (zsub_s (zsub_n (zsub_n zsub_0))))))))) ?_
        exact ih v1 x1 x2 x3 x4 x5 t4 _ h p3.1 Rx1 Rx2 Rx3 Rx4 Rx5 Rt4 K1
      · refine z_aload_n C (zd tX11_dearest 20 rfl) rfl ?_
        refine z_iload_n C (zd tX11_dearest 21 rfl) rfl ?_
        refine z_iload_n C (zd tX11_dearest 22 rfl) rfl ?_
        refine z_iload C (zd tX11_dearest 23 rfl) rfl ?_
        obtain ⟨v5, r6, cv5, h⟩ := zcl_some h
        refine zc_V C ho hz hRm (qX11_payWith _ _ _ _ Rx1 Rx2 p3.2 p3.1 cv5) (lg_0 ho) (by decide) rfl (zgV zwd_865 zwd_867 zws_28 zwd_1 zwd_868) rfl pX11_payWith rfl ⟨rfl, rfl⟩ ⟨Nat.le_of_ble_eq_true rfl, Nat.le_of_ble_eq_true rfl⟩ [] rfl (Nat.le_of_ble_eq_true rfl) (zd tX11_dearest 24 rfl) [zi r6] rfl (fun p7 => ?_)
        refine z_istore C (zd tX11_dearest 25 rfl) (by rw [hN]; decide) ?_
        refine z_iload C (zd tX11_dearest 26 rfl) rfl ?_
        refine z_iconst C (zd tX11_dearest 27 rfl) ?_
        refine z_icmp_eq (tgt := 58) C Rx4 (zR_c (-1) rfl) (zd tX11_dearest 28 rfl) (by decide) h (fun h => ?_) (fun h => ?_)
        · refine z_sub (lo' := [some (zr 0), some (zi x1), some (zi x2), some (zi x3), none, none, some (zi x6), none, some (zi r6)]) (zsub_s (zsub_s (zsub_s (zsub_s (zsub_n (zsub_n (zsub_s (zsub_n (zsub_s zsub_0))))))))) ?_
          exact jX11_dearest_J58 C hN ho hz hRm _ _ v5 x1 x2 x3 x6 r6 K1 trivial h p7.1 Rx1 Rx2 Rx3 Rx6 p7.2 (fun w z4 z5 z6 hw hvw y4 y5 y6 => ih w x1 x2 x3 z4 z5 z6 _ hw hvw Rx1 Rx2 Rx3 y4 y5 y6 K1)
        · refine z_iload C (zd tX11_dearest 29 rfl) rfl ?_
          refine z_iload C (zd tX11_dearest 30 rfl) rfl ?_
          refine z_icmp_le (tgt := 66) C p7.2 Rx5 (zd tX11_dearest 31 rfl) (by decide) h (fun h => ?_) (fun h => ?_)
          · obtain ⟨t9, et9, Rt9, h⟩ := zn_some h
            refine z_iincE C (zd tX11_dearest 36 rfl) (by rw [hN]; decide) rfl et9 ?_
            refine z_goto (tgt := 9) C (zd tX11_dearest 37 rfl) (by decide) ?_
            refine z_sub (lo' := [some (zr 0), some (zi x1), some (zi x2), some (zi x3), some (zi x4), some (zi x5), some (zi t9), none, none]) (zsub_s (zsub_s (zsub_s (zsub_s (zsub_s (zsub_s (zsub_s (zsub_n (zsub_n zsub_0))))))))) ?_
            exact ih v5 x1 x2 x3 x4 x5 t9 _ h p7.1 Rx1 Rx2 Rx3 Rx4 Rx5 Rt9 K1
          · refine z_sub (lo' := [some (zr 0), some (zi x1), some (zi x2), some (zi x3), none, none, some (zi x6), none, some (zi r6)]) (zsub_s (zsub_s (zsub_s (zsub_s (zsub_n (zsub_n (zsub_s (zsub_n (zsub_s zsub_0))))))))) ?_
            exact jX11_dearest_J58 C hN ho hz hRm _ _ v5 x1 x2 x3 x6 r6 K1 trivial h p7.1 Rx1 Rx2 Rx3 Rx6 p7.2 (fun w z4 z5 z6 hw hvw y4 y5 y6 => ih w x1 x2 x3 z4 z5 z6 _ hw hvw Rx1 Rx2 Rx3 y4 y5 y6 K1)
set_option maxRecDepth 100000 in
set_option maxHeartbeats 4000000 in
theorem qX11_dearest (l : Launch) (D : va_G) (ids : Nat → ClassId) (b : Nat) {x1 : Int} (Rx1 : zR x1) {x2 : Int} (Rx2 : zR x2) {x3 : Int} (Rx3 : zR x3) {v v' : zHp} {r' : Int} (hv : zV 0 137 v) (h : fX11_dearest v x1 x2 x3 = some (v', r')) : zCT l yX11_dearest vsX11_dearest rmX11_dearest D ids b 0 False 137 [zr 0, zi x1, zi x2, zi x3] v 137 (zV 0 137 v' ∧ zR r') (some (zi r')) v' 0 0 := by
  refine zMet (own := RX11) (by decide +kernel) (show vsX11_dearest = _ from rfl) (Nat.le_of_ble_eq_true rfl) rfl ?_
  intro E hl hRm hD hids hb ho hz hN C hname ret
  subst hl hD hids hb
  unfold fX11_dearest at h
  refine z_iconst C (zd tX11_dearest 0 rfl) ?_
  refine z_istore C (zd tX11_dearest 1 rfl) (by rw [hN]; decide) ?_
  refine z_iconst C (zd tX11_dearest 2 rfl) ?_
  refine z_istore C (zd tX11_dearest 3 rfl) (by rw [hN]; decide) ?_
  refine z_iconst C (zd tX11_dearest 4 rfl) ?_
  refine z_istore C (zd tX11_dearest 5 rfl) (by rw [hN]; decide) ?_
  refine z_sub (lo' := [some (zr 0), some (zi x1), some (zi x2), some (zi x3), some (zi (-1)), some (zi 0), some (zi 0), none, none]) (zsub_s (zsub_s (zsub_s (zsub_s (zsub_s (zsub_s (zsub_s (zsub_n (zsub_n zsub_0))))))))) ?_
  obtain ⟨v10, w11, lv10, h⟩ := zl_some h
  refine bX11_dearest_L9 C hN ho hz hRm zFU v x1 x2 x3 (-1) 0 0 _ lv10 hv Rx1 Rx2 Rx3 (zR_c (-1) rfl) (zR_c 0 rfl) (zR_c 0 rfl) (fun w1 q1 e1 hv10 Rw11 => ?_)
  obtain ⟨rfl, rfl⟩ := zpp e1
  refine z_iload C (zd tX11_dearest 38 rfl) rfl ?_
  obtain ⟨rfl, rfl⟩ := zpi h
  exact ret.1 _ _ _ _ ⟨hv10, Rw11⟩ rfl rfl rfl (zd tX11_dearest 39 rfl)
noncomputable def vsX9_hasRoom : List Cond := .code yX9_hasRoom cX9_hasRoom 2 (some .boolean) :: zbig
abbrev rmX9_hasRoom : Room := { frames := 0, cells := 0, slots := 0, locals := 0 }
theorem pX9_hasRoom : yX9_hasRoom.cls = RX9 ∧ yX9_hasRoom.cls ≠ "java/lang/invoke/MethodHandle" ∧ yX9_hasRoom.cls ≠ "java/lang/invoke/VarHandle" ∧ (parseMethodDescriptor yX9_hasRoom.desc).map (fun d => d.parameters.length) = some 1 := by decide +kernel
set_option maxRecDepth 100000 in
set_option maxHeartbeats 4000000 in
theorem qX9_hasRoom (l : Launch) (D : va_G) (ids : Nat → ClassId) (b : Nat) {x1 : Int} (Rx1 : zR x1) {v v' : zHp} {r' : Int} (hv : zV 0 137 v) (h : fX9_hasRoom v x1 = some (v', r')) : zCT l yX9_hasRoom vsX9_hasRoom rmX9_hasRoom D ids b 0 False 137 [zr 1, zi x1] v 137 (zV 0 137 v' ∧ zR r') (some (zi r')) v' 0 0 := by
  refine zMet (own := RX9) (by decide +kernel) (show vsX9_hasRoom = _ from rfl) (Nat.le_of_ble_eq_true rfl) rfl ?_
  intro E hl hRm hD hids hb ho hz hN C hname ret
  subst hl hD hids hb
  unfold fX9_hasRoom at h
  refine z_aload_n C (zd tX9_hasRoom 0 rfl) rfl ?_
  refine gf_9_1 C (lg_1 ho) zic_9 (zm zwd_38) (zd tX9_hasRoom 1 rfl) ?_
  refine z_iload_n C (zd tX9_hasRoom 2 rfl) rfl ?_
  refine z_iadd C (zd tX9_hasRoom 3 rfl) ?_
  refine z_aload_n C (zd tX9_hasRoom 4 rfl) rfl ?_
  refine gl_9_0 (t := 2) C (lg_1 ho) zic_9 (zm zwd_37) (vl_9_0 ho hv (lg_1 ho)) (zd tX9_hasRoom 5 rfl) ?_
  refine z_alen C (lg_2 ho) (zd tX9_hasRoom 6 rfl) ?_
  obtain ⟨t1, et1, Rt1, h⟩ := zn_some h
  refine z_n1 (congrArg zI et1.symm) ?_
  refine z_icmp_gt (tgt := 18) C Rt1 (zR_c 400 rfl) (zd tX9_hasRoom 7 rfl) (by decide) h (fun h => ?_) (fun h => ?_)
  · refine z_iconst C (zd tX9_hasRoom 10 rfl) ?_
    obtain ⟨rfl, rfl⟩ := zpi h
    exact ret.1 _ _ _ _ ⟨hv, (zR_c 0 rfl)⟩ rfl rfl (by decide) (zd tX9_hasRoom 11 rfl)
  · refine z_iconst C (zd tX9_hasRoom 8 rfl) ?_
    refine z_goto (tgt := 19) C (zd tX9_hasRoom 9 rfl) (by decide) ?_
    obtain ⟨rfl, rfl⟩ := zpi h
    exact ret.1 _ _ _ _ ⟨hv, (zR_c 1 rfl)⟩ rfl rfl (by decide) (zd tX9_hasRoom 11 rfl)
noncomputable def vsX9_put : List Cond := .code yX9_put cX9_put 3 none :: zbig
abbrev rmX9_put : Room := { frames := 0, cells := 0, slots := 0, locals := 0 }
theorem pX9_put : yX9_put.cls = RX9 ∧ yX9_put.cls ≠ "java/lang/invoke/MethodHandle" ∧ yX9_put.cls ≠ "java/lang/invoke/VarHandle" ∧ (parseMethodDescriptor yX9_put.desc).map (fun d => d.parameters.length) = some 1 := by decide +kernel
set_option maxRecDepth 100000 in
set_option maxHeartbeats 4000000 in
theorem bX9_put_L3 {E : zE} (C : zC E 137 cX9_put RX9 vsX9_put) (hN : zEN E = 3) (ho : zEo E = 0) (hz : zEz E = False) (hRm : zER E = rmX9_put) : ∀ (fu : Nat) (v : zHp) (x1 : Int) (x2 : Int) (res : (zHp × (Int))), fX9_put_L3 fu v x1 x2 = some res → zV 0 137 v → zR x1 → zR x2 → (∀ (w : zHp) (q : Int), res = (w, q) → zV 0 137 w → True → zX E 0 0 137 w 51 [none, none, none] []) → zX E 0 0 137 v 3 [some (zr 1), some (zi x1), some (zi x2)] [] := by
  intro fu
  induction fu with
  | zero =>
    intro v _ _ res h
    cases h
  | succ fu ih =>
    intro v x1 x2 res h hv Rx1 Rx2 K1
    rw [fX9_put_L3.eq_2] at h
    refine z_iload_n C (zd tX9_put 2 rfl) rfl ?_
    refine z_if_lt (tgt := 51) C Rx2 (zd tX9_put 3 rfl) (by decide) h (fun h => ?_) (fun h => ?_)
    · refine z_sub (lo' := [none, none, none]) (zsub_n (zsub_n (zsub_n zsub_0))) ?_
      exact K1 _ _ (Option.some.inj h).symm hv trivial
    · refine z_aload_n C (zd tX9_put 4 rfl) rfl ?_
      refine gf_9_1 C (lg_1 ho) zic_9 (zm zwd_38) (zd tX9_put 5 rfl) ?_
      refine z_aload_n C (zd tX9_put 6 rfl) rfl ?_
      refine gl_9_0 (t := 2) C (lg_1 ho) zic_9 (zm zwd_37) (vl_9_0 ho hv (lg_1 ho)) (zd tX9_put 7 rfl) ?_
      refine z_alen C (lg_2 ho) (zd tX9_put 8 rfl) ?_
      refine z_icmp_ge (tgt := 45) C (hv.1 _ _) (zR_c 400 rfl) (zd tX9_put 9 rfl) (by decide) h (fun h => ?_) (fun h => ?_)
      · obtain ⟨t1, et1, Rt1, h⟩ := zn_some h
        refine z_iincE C (zd tX9_put 26 rfl) (by rw [hN]; decide) rfl et1 ?_
        refine z_goto (tgt := 3) C (zd tX9_put 27 rfl) (by decide) ?_
        refine z_sub (lo' := [some (zr 1), some (zi x1), some (zi t1)]) (zsub_s (zsub_s (zsub_s zsub_0))) ?_
        exact ih v x1 t1 _ h hv Rx1 Rt1 K1
      · refine z_aload_n C (zd tX9_put 10 rfl) rfl ?_
        refine gl_9_0 (t := 2) C (lg_1 ho) zic_9 (zm zwd_37) (vl_9_0 ho hv (lg_1 ho)) (zd tX9_put 11 rfl) ?_
        refine z_aload_n C (zd tX9_put 12 rfl) rfl ?_
        refine gf_9_1 C (lg_1 ho) zic_9 (zm zwd_38) (zd tX9_put 13 rfl) ?_
        refine z_iload_n C (zd tX9_put 14 rfl) rfl ?_
        refine z_iload_n C (zd tX9_put 15 rfl) rfl ?_
        refine z_ishr C (zd tX9_put 16 rfl) ?_
        refine z_sipush C (by decide) (zd tX9_put 17 rfl) ?_
        refine z_iand C (zd tX9_put 18 rfl) ?_
        obtain ⟨q2, h⟩ := zck_some h
        obtain ⟨v3, ev3, h⟩ := zb_some h
        have hv3 : zV 0 137 v3 := by rw [ev3]; exact hv.st (zR_and _ _) (lg_2 ho).1 (Or.inr rfl)
        refine za_iast C (lg_2 ho) rfl (by decide) q2 ev3 (zd tX9_put 19 rfl) ?_
        refine z_aload_n C (zd tX9_put 20 rfl) rfl ?_
        refine z_dup C (zd tX9_put 21 rfl) ?_
        refine gf_9_1 C (lg_1 ho) zic_9 (zm zwd_38) (zd tX9_put 22 rfl) ?_
        refine z_iconst C (zd tX9_put 23 rfl) ?_
        refine z_iadd C (zd tX9_put 24 rfl) ?_
        obtain ⟨t4, et4, Rt4, h⟩ := zn_some h
        refine z_n0 (congrArg zI et4.symm) ?_
        obtain ⟨v5, ev5, h⟩ := zb_some h
        have hv5 : zV 0 137 v5 := by rw [ev5]; exact hv3.st Rt4 (lg_1 ho).1 (Or.inr rfl)
        refine pf_9_1 C (lg_1 ho) zic_9 (zm zwd_38) ev5 (zd tX9_put 25 rfl) ?_
        obtain ⟨t6, et6, Rt6, h⟩ := zn_some h
        refine z_iincE C (zd tX9_put 26 rfl) (by rw [hN]; decide) rfl et6 ?_
        refine z_goto (tgt := 3) C (zd tX9_put 27 rfl) (by decide) ?_
        refine z_sub (lo' := [some (zr 1), some (zi x1), some (zi t6)]) (zsub_s (zsub_s (zsub_s zsub_0))) ?_
        exact ih v5 x1 t6 _ h hv5 Rx1 Rt6 K1
set_option maxRecDepth 100000 in
set_option maxHeartbeats 4000000 in
theorem qX9_put (l : Launch) (D : va_G) (ids : Nat → ClassId) (b : Nat) {x1 : Int} (Rx1 : zR x1) {v v' : zHp} {r' : Int} (hv : zV 0 137 v) (h : fX9_put v x1 = some (v', r')) : zCT l yX9_put vsX9_put rmX9_put D ids b 0 False 137 [zr 1, zi x1] v 137 (zV 0 137 v') none v' 0 0 := by
  refine zMet (own := RX9) (by decide +kernel) (show vsX9_put = _ from rfl) (Nat.le_of_ble_eq_true rfl) rfl ?_
  intro E hl hRm hD hids hb ho hz hN C hname ret
  subst hl hD hids hb
  unfold fX9_put at h
  refine z_bipush C (by decide) (zd tX9_put 0 rfl) ?_
  refine z_istore_n C (zd tX9_put 1 rfl) (by rw [hN]; decide) ?_
  refine z_sub (lo' := [some (zr 1), some (zi x1), some (zi 24)]) (zsub_s (zsub_s (zsub_s zsub_0))) ?_
  obtain ⟨v7, w8, lv7, h⟩ := zl_some h
  refine bX9_put_L3 C hN ho hz hRm zFU v x1 24 _ lv7 hv Rx1 (zR_c 24 rfl) (fun w1 q1 e1 hv7 Rw8 => ?_)
  obtain ⟨rfl, rfl⟩ := zpp e1
  obtain ⟨rfl, rfl⟩ := zpi h
  exact ret.2.1 _ _ hv7 rfl rfl (zd tX9_put 28 rfl)
noncomputable def vsX11_feed : List Cond := .code yX11_feed cX11_feed 6 (some .int) :: zbig
abbrev rmX11_feed : Room := { frames := 1, cells := 0, slots := 0, locals := 22 }
theorem pX11_feed : yX11_feed.cls = RX11 ∧ yX11_feed.cls ≠ "java/lang/invoke/MethodHandle" ∧ yX11_feed.cls ≠ "java/lang/invoke/VarHandle" ∧ (parseMethodDescriptor yX11_feed.desc).map (fun d => d.parameters.length) = some 5 := by decide +kernel
set_option maxRecDepth 100000 in
set_option maxHeartbeats 4000000 in
theorem qX11_feed (l : Launch) (D : va_G) (ids : Nat → ClassId) (b : Nat) {x1 : Int} (Rx1 : zR x1) {x2 : Int} (Rx2 : zR x2) {x3 : Int} (Rx3 : zR x3) {x4 : Int} (Rx4 : zR x4) {x5 : Int} (Rx5 : zR x5) {v v' : zHp} {r' : Int} (hv : zV 0 137 v) (h : fX11_feed v x1 x2 x3 x4 x5 = some (v', r')) : zCT l yX11_feed vsX11_feed rmX11_feed D ids b 0 False 137 [zr 0, zi x1, zi x2, zi x3, zi x4, zi x5] v 137 (zV 0 137 v' ∧ zR r') (some (zi r')) v' 0 0 := by
  refine zMet (own := RX11) (by decide +kernel) (show vsX11_feed = _ from rfl) (Nat.le_of_ble_eq_true rfl) rfl ?_
  intro E hl hRm hD hids hb ho hz hN C hname ret
  subst hl hD hids hb
  unfold fX11_feed at h
  refine z_aload_n C (zd tX11_feed 0 rfl) rfl ?_
  refine gl_11_0 (t := 1) C (lg_0 ho) zic_11 (zm zwd_400) (vl_11_0 ho hv (lg_0 ho)) (zd tX11_feed 1 rfl) ?_
  refine z_bipush C (by decide) (zd tX11_feed 2 rfl) ?_
  obtain ⟨v1, r2, cv1, h⟩ := zcl_some h
  refine zc_V C ho hz hRm (qX9_hasRoom _ _ _ _ (zR_c 20 rfl) hv cv1) (lg_1 ho) (by decide) rfl (zgV zwd_435 zwd_436 zwd_437 zwd_2 zwd_438) rfl pX9_hasRoom rfl ⟨rfl, rfl⟩ ⟨Nat.le_of_ble_eq_true rfl, Nat.le_of_ble_eq_true rfl⟩ [] rfl (Nat.le_of_ble_eq_true rfl) (zd tX11_feed 3 rfl) [zi r2] rfl (fun p3 => ?_)
  refine z_if_ne (tgt := 14) C p3.2 (zd tX11_feed 4 rfl) (by decide) h (fun h => ?_) (fun h => ?_)
  · refine z_aload_n C (zd tX11_feed 7 rfl) rfl ?_
    refine gl_11_0 (t := 1) C (lg_0 ho) zic_11 (zm zwd_400) (vl_11_0 ho p3.1 (lg_0 ho)) (zd tX11_feed 8 rfl) ?_
    refine z_iload_n C (zd tX11_feed 9 rfl) rfl ?_
    obtain ⟨v4, r5, cv4, h⟩ := zcl_some h
    refine zc_V C ho hz hRm (qX9_put _ _ _ _ Rx1 p3.1 cv4) (lg_1 ho) (by decide) rfl (zgV zwd_439 zwd_440 zwd_441 zwd_2 zwd_442) rfl pX9_put rfl ⟨rfl, rfl⟩ ⟨Nat.le_of_ble_eq_true rfl, Nat.le_of_ble_eq_true rfl⟩ [] rfl (Nat.le_of_ble_eq_true rfl) (zd tX11_feed 10 rfl) [] rfl (fun p6 => ?_)
    refine z_aload_n C (zd tX11_feed 11 rfl) rfl ?_
    refine gl_11_0 (t := 1) C (lg_0 ho) zic_11 (zm zwd_400) (vl_11_0 ho p6 (lg_0 ho)) (zd tX11_feed 12 rfl) ?_
    refine z_iload_n C (zd tX11_feed 13 rfl) rfl ?_
    obtain ⟨v7, r8, cv7, h⟩ := zcl_some h
    refine zc_V C ho hz hRm (qX9_put _ _ _ _ Rx2 p6 cv7) (lg_1 ho) (by decide) rfl (zgV zwd_439 zwd_440 zwd_441 zwd_2 zwd_442) rfl pX9_put rfl ⟨rfl, rfl⟩ ⟨Nat.le_of_ble_eq_true rfl, Nat.le_of_ble_eq_true rfl⟩ [] rfl (Nat.le_of_ble_eq_true rfl) (zd tX11_feed 14 rfl) [] rfl (fun p9 => ?_)
    refine z_aload_n C (zd tX11_feed 15 rfl) rfl ?_
    refine gl_11_0 (t := 1) C (lg_0 ho) zic_11 (zm zwd_400) (vl_11_0 ho p9 (lg_0 ho)) (zd tX11_feed 16 rfl) ?_
    refine z_iload_n C (zd tX11_feed 17 rfl) rfl ?_
    obtain ⟨v10, r11, cv10, h⟩ := zcl_some h
    refine zc_V C ho hz hRm (qX9_put _ _ _ _ Rx3 p9 cv10) (lg_1 ho) (by decide) rfl (zgV zwd_439 zwd_440 zwd_441 zwd_2 zwd_442) rfl pX9_put rfl ⟨rfl, rfl⟩ ⟨Nat.le_of_ble_eq_true rfl, Nat.le_of_ble_eq_true rfl⟩ [] rfl (Nat.le_of_ble_eq_true rfl) (zd tX11_feed 18 rfl) [] rfl (fun p12 => ?_)
    refine z_aload_n C (zd tX11_feed 19 rfl) rfl ?_
    refine gl_11_0 (t := 1) C (lg_0 ho) zic_11 (zm zwd_400) (vl_11_0 ho p12 (lg_0 ho)) (zd tX11_feed 20 rfl) ?_
    refine z_iload C (zd tX11_feed 21 rfl) rfl ?_
    obtain ⟨v13, r14, cv13, h⟩ := zcl_some h
    refine zc_V C ho hz hRm (qX9_put _ _ _ _ Rx4 p12 cv13) (lg_1 ho) (by decide) rfl (zgV zwd_439 zwd_440 zwd_441 zwd_2 zwd_442) rfl pX9_put rfl ⟨rfl, rfl⟩ ⟨Nat.le_of_ble_eq_true rfl, Nat.le_of_ble_eq_true rfl⟩ [] rfl (Nat.le_of_ble_eq_true rfl) (zd tX11_feed 22 rfl) [] rfl (fun p15 => ?_)
    refine z_aload_n C (zd tX11_feed 23 rfl) rfl ?_
    refine gl_11_0 (t := 1) C (lg_0 ho) zic_11 (zm zwd_400) (vl_11_0 ho p15 (lg_0 ho)) (zd tX11_feed 24 rfl) ?_
    refine z_iload C (zd tX11_feed 25 rfl) rfl ?_
    obtain ⟨v16, r17, cv16, h⟩ := zcl_some h
    refine zc_V C ho hz hRm (qX9_put _ _ _ _ Rx5 p15 cv16) (lg_1 ho) (by decide) rfl (zgV zwd_439 zwd_440 zwd_441 zwd_2 zwd_442) rfl pX9_put rfl ⟨rfl, rfl⟩ ⟨Nat.le_of_ble_eq_true rfl, Nat.le_of_ble_eq_true rfl⟩ [] rfl (Nat.le_of_ble_eq_true rfl) (zd tX11_feed 26 rfl) [] rfl (fun p18 => ?_)
    refine z_aload_n C (zd tX11_feed 27 rfl) rfl ?_
    refine gl_11_0 (t := 1) C (lg_0 ho) zic_11 (zm zwd_400) (vl_11_0 ho p18 (lg_0 ho)) (zd tX11_feed 28 rfl) ?_
    refine gf_9_1 C (lg_1 ho) zic_9 (zm zwd_39) (zd tX11_feed 29 rfl) ?_
    obtain ⟨rfl, rfl⟩ := zpi h
    exact ret.1 _ _ _ _ ⟨p18, (p18.1 _ _)⟩ rfl rfl rfl (zd tX11_feed 30 rfl)
  · refine z_iconst C (zd tX11_feed 5 rfl) ?_
    obtain ⟨rfl, rfl⟩ := zpi h
    exact ret.1 _ _ _ _ ⟨p3.1, (zR_c (-1) rfl)⟩ rfl rfl rfl (zd tX11_feed 6 rfl)
noncomputable def vsX2_set : List Cond := .code yX2_set cX2_set 4 none :: zbig
abbrev rmX2_set : Room := { frames := 0, cells := 0, slots := 0, locals := 0 }
theorem pX2_set : yX2_set.cls = RX2 ∧ yX2_set.cls ≠ "java/lang/invoke/MethodHandle" ∧ yX2_set.cls ≠ "java/lang/invoke/VarHandle" ∧ (parseMethodDescriptor yX2_set.desc).map (fun d => d.parameters.length) = some 3 := by decide +kernel
set_option maxRecDepth 100000 in
set_option maxHeartbeats 4000000 in
theorem qX2_set (l : Launch) (D : va_G) (ids : Nat → ClassId) (b : Nat) {a0 : Nat} (k0 : zK a0 = (2, 5)) {x1 : Int} (Rx1 : zR x1) {x2 : Int} (Rx2 : zR x2) {x3 : Int} (Rx3 : zR x3) {v v' : zHp} {r' : Int} (hv : zV 0 137 v) (h : fX2_set v a0 x1 x2 x3 = some (v', r')) : zCT l yX2_set vsX2_set rmX2_set D ids b 0 False 137 [zr a0, zi x1, zi x2, zi x3] v 137 (zV 0 137 v') none v' 0 0 := by
  refine zMet (own := RX2) (by decide +kernel) (show vsX2_set = _ from rfl) (Nat.le_of_ble_eq_true rfl) rfl ?_
  intro E hl hRm hD hids hb ho hz hN C hname ret
  subst hl hD hids hb
  have ga0 := kg_2 ho k0
  unfold fX2_set at h
  refine z_aload_n C (zd tX2_set 0 rfl) rfl ?_
  refine z_iload_n C (zd tX2_set 1 rfl) rfl ?_
  obtain ⟨v1, ev1, h⟩ := zb_some h
  have hv1 : zV 0 137 v1 := by rw [ev1]; exact hv.st Rx1 ga0.1 (Or.inr rfl)
  refine pf_2_0 C ga0 zic_2 (zm zwd_85) ev1 (zd tX2_set 2 rfl) ?_
  refine z_aload_n C (zd tX2_set 3 rfl) rfl ?_
  refine z_iload_n C (zd tX2_set 4 rfl) rfl ?_
  obtain ⟨v2, ev2, h⟩ := zb_some h
  have hv2 : zV 0 137 v2 := by rw [ev2]; exact hv1.st Rx2 ga0.1 (Or.inr rfl)
  refine pf_2_1 C ga0 zic_2 (zm zwd_87) ev2 (zd tX2_set 5 rfl) ?_
  refine z_aload_n C (zd tX2_set 6 rfl) rfl ?_
  refine z_iload_n C (zd tX2_set 7 rfl) rfl ?_
  obtain ⟨v3, ev3, h⟩ := zb_some h
  have hv3 : zV 0 137 v3 := by rw [ev3]; exact hv2.st Rx3 ga0.1 (Or.inr rfl)
  refine pf_2_2 C ga0 zic_2 (zm zwd_89) ev3 (zd tX2_set 8 rfl) ?_
  refine z_aload_n C (zd tX2_set 9 rfl) rfl ?_
  refine z_iload_n C (zd tX2_set 10 rfl) rfl ?_
  refine z_sipush C (by decide) (zd tX2_set 11 rfl) ?_
  refine z_imul C (zd tX2_set 12 rfl) ?_
  refine z_iload_n C (zd tX2_set 13 rfl) rfl ?_
  refine z_bipush C (by decide) (zd tX2_set 14 rfl) ?_
  refine z_imul C (zd tX2_set 15 rfl) ?_
  refine z_iadd C (zd tX2_set 16 rfl) ?_
  obtain ⟨t4, et4, Rt4, h⟩ := zn_some h
  refine z_n0 (congrArg zI et4.symm) ?_
  obtain ⟨v5, ev5, h⟩ := zb_some h
  have hv5 : zV 0 137 v5 := by rw [ev5]; exact hv3.st Rt4 ga0.1 (Or.inr rfl)
  refine pf_2_3 C ga0 zic_2 (zm zwd_91) ev5 (zd tX2_set 17 rfl) ?_
  refine z_aload_n C (zd tX2_set 18 rfl) rfl ?_
  refine z_iload_n C (zd tX2_set 19 rfl) rfl ?_
  refine z_iconst C (zd tX2_set 20 rfl) ?_
  refine z_icmp_ne (tgt := 40) C Rx3 (zR_c 1 rfl) (zd tX2_set 21 rfl) (by decide) h (fun h => ?_) (fun h => ?_)
  · refine z_iload_n C (zd tX2_set 24 rfl) rfl ?_
    refine z_if_ne (tgt := 49) C Rx3 (zd tX2_set 25 rfl) (by decide) h (fun h => ?_) (fun h => ?_)
    · refine z_iconst C (zd tX2_set 28 rfl) ?_
      obtain ⟨v6, ev6, h⟩ := zb_some h
      have hv6 : zV 0 137 v6 := by rw [ev6]; exact hv5.st (zR_c 0 rfl) ga0.1 (Or.inr rfl)
      refine pf_2_4 C ga0 zic_2 (zm zwd_92) ev6 (zd tX2_set 29 rfl) ?_
      obtain ⟨rfl, rfl⟩ := zpi h
      exact ret.2.1 _ _ hv6 rfl rfl (zd tX2_set 30 rfl)
    · refine z_bipush C (by decide) (zd tX2_set 26 rfl) ?_
      refine z_goto (tgt := 50) C (zd tX2_set 27 rfl) (by decide) ?_
      obtain ⟨v7, ev7, h⟩ := zb_some h
      have hv7 : zV 0 137 v7 := by rw [ev7]; exact hv5.st (zR_c 60 rfl) ga0.1 (Or.inr rfl)
      refine pf_2_4 C ga0 zic_2 (zm zwd_92) ev7 (zd tX2_set 29 rfl) ?_
      obtain ⟨rfl, rfl⟩ := zpi h
      exact ret.2.1 _ _ hv7 rfl rfl (zd tX2_set 30 rfl)
  · refine z_bipush C (by decide) (zd tX2_set 22 rfl) ?_
    refine z_goto (tgt := 50) C (zd tX2_set 23 rfl) (by decide) ?_
    obtain ⟨v8, ev8, h⟩ := zb_some h
    have hv8 : zV 0 137 v8 := by rw [ev8]; exact hv5.st (zR_c (-60) rfl) ga0.1 (Or.inr rfl)
    refine pf_2_4 C ga0 zic_2 (zm zwd_92) ev8 (zd tX2_set 29 rfl) ?_
    obtain ⟨rfl, rfl⟩ := zpi h
    exact ret.2.1 _ _ hv8 rfl rfl (zd tX2_set 30 rfl)
noncomputable def vsX7_clear : List Cond := .code yX7_clear cX7_clear 1 none :: zbig
abbrev rmX7_clear : Room := { frames := 1, cells := 0, slots := 0, locals := 23 }
theorem pX7_clear : yX7_clear.cls = RX7 ∧ yX7_clear.cls ≠ "java/lang/invoke/MethodHandle" ∧ yX7_clear.cls ≠ "java/lang/invoke/VarHandle" ∧ (parseMethodDescriptor yX7_clear.desc).map (fun d => d.parameters.length) = some 0 := by decide +kernel
set_option maxRecDepth 100000 in
set_option maxHeartbeats 4000000 in
theorem qX7_clear (l : Launch) (D : va_G) (ids : Nat → ClassId) (b : Nat) {a0 : Nat} (k0 : zK a0 = (7, 10)) {v v' : zHp} {r' : Int} (hv : zV 0 137 v) (h : fX7_clear v a0 = some (v', r')) : zCT l yX7_clear vsX7_clear rmX7_clear D ids b 0 False 137 [zr a0] v 137 (zV 0 137 v') none v' 0 0 := by
  refine zMet (own := RX7) (by decide +kernel) (show vsX7_clear = _ from rfl) (Nat.le_of_ble_eq_true rfl) rfl ?_
  intro E hl hRm hD hids hb ho hz hN C hname ret
  subst hl hD hids hb
  have ga0 := kg_7 ho k0
  unfold fX7_clear at h
  refine z_aload_n C (zd tX7_clear 0 rfl) rfl ?_
  refine gl_7_0 C ga0 zic_7 (zm zwd_148) (vl_7_0 ho hv ga0) (zd tX7_clear 1 rfl) ?_
  refine z_iconst C (zd tX7_clear 2 rfl) ?_
  refine z_iconst C (zd tX7_clear 3 rfl) ?_
  refine z_iconst C (zd tX7_clear 4 rfl) ?_
  obtain ⟨v1, r2, cv1, h⟩ := zcl_some h
  refine zc_V C ho hz hRm (qX2_set _ _ _ _ (lk_7_0 ho ga0).1 (zR_c (-1) rfl) (zR_c (-1) rfl) (zR_c (-1) rfl) hv cv1) (lk_7_0 ho ga0) (by decide) rfl (zgV zwd_144 zwd_145 zwd_146 zwd_5 zwd_147) rfl pX2_set rfl ⟨rfl, rfl⟩ ⟨Nat.le_of_ble_eq_true rfl, Nat.le_of_ble_eq_true rfl⟩ [] rfl (Nat.le_of_ble_eq_true rfl) (zd tX7_clear 5 rfl) [] rfl (fun p3 => ?_)
  refine z_aload_n C (zd tX7_clear 6 rfl) rfl ?_
  refine z_iconst C (zd tX7_clear 7 rfl) ?_
  obtain ⟨v4, ev4, h⟩ := zb_some h
  have hv4 : zV 0 137 v4 := by rw [ev4]; exact p3.st (zR_c 0 rfl) ga0.1 (Or.inr rfl)
  refine pf_7_2 C ga0 zic_7 (zm zwd_157) ev4 (zd tX7_clear 8 rfl) ?_
  refine z_aload_n C (zd tX7_clear 9 rfl) rfl ?_
  refine z_iconst C (zd tX7_clear 10 rfl) ?_
  obtain ⟨v5, ev5, h⟩ := zb_some h
  have hv5 : zV 0 137 v5 := by rw [ev5]; exact hv4.st (zR_c 0 rfl) ga0.1 (Or.inr rfl)
  refine pf_7_4 C ga0 zic_7 (zm zwd_163) ev5 (zd tX7_clear 11 rfl) ?_
  refine z_aload_n C (zd tX7_clear 12 rfl) rfl ?_
  refine z_bipush C (by decide) (zd tX7_clear 13 rfl) ?_
  obtain ⟨v6, ev6, h⟩ := zb_some h
  have hv6 : zV 0 137 v6 := by rw [ev6]; exact hv5.st (zR_c 7 rfl) ga0.1 (Or.inr rfl)
  refine pf_7_5 C ga0 zic_7 (zm zwd_166) ev6 (zd tX7_clear 14 rfl) ?_
  refine z_aload_n C (zd tX7_clear 15 rfl) rfl ?_
  refine z_iconst C (zd tX7_clear 16 rfl) ?_
  obtain ⟨v7, ev7, h⟩ := zb_some h
  have hv7 : zV 0 137 v7 := by rw [ev7]; exact hv6.st (zR_c 0 rfl) ga0.1 (Or.inr rfl)
  refine pf_7_6 C ga0 zic_7 (zm zwd_169) ev7 (zd tX7_clear 17 rfl) ?_
  refine z_aload_n C (zd tX7_clear 18 rfl) rfl ?_
  refine z_iconst C (zd tX7_clear 19 rfl) ?_
  obtain ⟨v8, ev8, h⟩ := zb_some h
  have hv8 : zV 0 137 v8 := by rw [ev8]; exact hv7.st (zR_c 0 rfl) ga0.1 (Or.inr rfl)
  refine pf_7_7 C ga0 zic_7 (zm zwd_173) ev8 (zd tX7_clear 20 rfl) ?_
  refine z_aload_n C (zd tX7_clear 21 rfl) rfl ?_
  refine z_bipush C (by decide) (zd tX7_clear 22 rfl) ?_
  obtain ⟨v9, ev9, h⟩ := zb_some h
  have hv9 : zV 0 137 v9 := by rw [ev9]; exact hv8.st (zR_c 16 rfl) ga0.1 (Or.inr rfl)
  refine pf_7_8 C ga0 zic_7 (zm zwd_177) ev9 (zd tX7_clear 23 rfl) ?_
  refine z_aload_n C (zd tX7_clear 24 rfl) rfl ?_
  refine z_bipush C (by decide) (zd tX7_clear 25 rfl) ?_
  obtain ⟨v10, ev10, h⟩ := zb_some h
  have hv10 : zV 0 137 v10 := by rw [ev10]; exact hv9.st (zR_c 100 rfl) ga0.1 (Or.inr rfl)
  refine pf_7_9 C ga0 zic_7 (zm zwd_181) ev10 (zd tX7_clear 26 rfl) ?_
  obtain ⟨rfl, rfl⟩ := zpi h
  exact ret.2.1 _ _ hv10 rfl rfl (zd tX7_clear 27 rfl)
noncomputable def vsX11_moment : List Cond := .code yX11_moment cX11_moment 4 (some .int) :: zbig
abbrev rmX11_moment : Room := { frames := 1, cells := 0, slots := 0, locals := 24 }
theorem pX11_moment : yX11_moment.cls = RX11 ∧ yX11_moment.cls ≠ "java/lang/invoke/MethodHandle" ∧ yX11_moment.cls ≠ "java/lang/invoke/VarHandle" ∧ (parseMethodDescriptor yX11_moment.desc).map (fun d => d.parameters.length) = some 3 := by decide +kernel
set_option maxRecDepth 100000 in
set_option maxHeartbeats 4000000 in
theorem qX11_moment (l : Launch) (D : va_G) (ids : Nat → ClassId) (b : Nat) {x1 : Int} (Rx1 : zR x1) {x2 : Int} (Rx2 : zR x2) {x3 : Int} (Rx3 : zR x3) {v v' : zHp} {r' : Int} (hv : zV 0 137 v) (h : fX11_moment v x1 x2 x3 = some (v', r')) : zCT l yX11_moment vsX11_moment rmX11_moment D ids b 0 False 137 [zr 0, zi x1, zi x2, zi x3] v 137 (zV 0 137 v' ∧ zR r') (some (zi r')) v' 0 0 := by
  refine zMet (own := RX11) (by decide +kernel) (show vsX11_moment = _ from rfl) (Nat.le_of_ble_eq_true rfl) rfl ?_
  intro E hl hRm hD hids hb ho hz hN C hname ret
  subst hl hD hids hb
  unfold fX11_moment at h
  refine z_aload_n C (zd tX11_moment 0 rfl) rfl ?_
  obtain ⟨u1, eu1, h⟩ := zb_some h
  obtain ⟨q2, h⟩ := zck_some h
  have gu1 := kg_7 ho q2.2
  refine gl_11_2 C (lg_0 ho) zic_11 (zm zwd_402) (zdyn q2.1 eu1) (zd tX11_moment 1 rfl) ?_
  refine gl_7_0 C gu1 zic_7 (zm zwd_151) (vl_7_0 ho hv gu1) (zd tX11_moment 2 rfl) ?_
  refine z_iload_n C (zd tX11_moment 3 rfl) rfl ?_
  refine z_iload_n C (zd tX11_moment 4 rfl) rfl ?_
  refine z_iload_n C (zd tX11_moment 5 rfl) rfl ?_
  obtain ⟨v3, r4, cv3, h⟩ := zcl_some h
  refine zc_V C ho hz hRm (qX2_momentAt _ _ _ _ (lk_7_0 ho gu1).1 Rx1 Rx2 Rx3 hv cv3) (lk_7_0 ho gu1) (by decide) rfl (zgV zwd_605 zwd_606 zwd_607 zwd_5 zwd_608) rfl pX2_momentAt rfl ⟨rfl, rfl⟩ ⟨Nat.le_of_ble_eq_true rfl, Nat.le_of_ble_eq_true rfl⟩ [] rfl (Nat.le_of_ble_eq_true rfl) (zd tX11_moment 6 rfl) [zi r4] rfl (fun p5 => ?_)
  obtain ⟨rfl, rfl⟩ := zpi h
  exact ret.1 _ _ _ _ ⟨p5.1, p5.2⟩ rfl rfl rfl (zd tX11_moment 7 rfl)
noncomputable def vsX11_pay : List Cond := .code yX11_pay cX11_pay 6 (some .int) :: zbig
abbrev rmX11_pay : Room := { frames := 7, cells := 0, slots := 0, locals := 186 }
theorem pX11_pay : yX11_pay.cls = RX11 ∧ yX11_pay.cls ≠ "java/lang/invoke/MethodHandle" ∧ yX11_pay.cls ≠ "java/lang/invoke/VarHandle" ∧ (parseMethodDescriptor yX11_pay.desc).map (fun d => d.parameters.length) = some 3 := by decide +kernel
set_option maxRecDepth 100000 in
set_option maxHeartbeats 4000000 in
theorem jX11_pay_J47 {E : zE} (C : zC E 137 cX11_pay RX11 vsX11_pay) (hN : zEN E = 6) (ho : zEo E = 0) (hz : zEz E = False) (hRm : zER E = rmX11_pay) {v' : zHp} {r' : Int} (ret : zRet E cX11_pay 0 0 137 (some .int) (zV 0 137 v' ∧ zR r') (some (zi r')) v') (v : zHp) (x5 : Int) (b1 : Nat) (h : fX11_pay_J47 v x5 b1 = some (v', r')) (hv : zV 0 137 v) (Rx5 : zR x5) (gb1 : zG E 137 b1 20 2692) : zX E 0 0 137 v 47 [none, none, none, none, none, some (zi x5)] [zr b1, zr 0] := by
  unfold fX11_pay_J47 at h
  refine z_iload C (zd tX11_pay 24 rfl) rfl ?_
  refine z_iload C (zd tX11_pay 25 rfl) rfl ?_
  refine z_bipush C (by decide) (zd tX11_pay 26 rfl) ?_
  refine z_iadd C (zd tX11_pay 27 rfl) ?_
  obtain ⟨t12, et12, Rt12, h⟩ := zn_some h
  refine z_nk 0 (congrArg zI et12.symm) rfl ?_
  obtain ⟨v13, r14, cv13, h⟩ := zcl_some h
  refine zc_V C ho hz hRm (qX11_payOfDays _ _ _ _ gb1.1 Rx5 Rt12 hv cv13) (lg_0 ho) (by decide) rfl (zgV zwd_843 zwd_845 zws_27 zwd_1 zwd_846) rfl pX11_payOfDays rfl ⟨rfl, rfl⟩ ⟨Nat.le_of_ble_eq_true rfl, Nat.le_of_ble_eq_true rfl⟩ [] rfl (Nat.le_of_ble_eq_true rfl) (zd tX11_pay 28 rfl) [zi r14] rfl (fun p15 => ?_)
  obtain ⟨rfl, rfl⟩ := zpi h
  exact ret.1 _ _ _ _ ⟨p15.1, p15.2⟩ rfl rfl rfl (zd tX11_pay 29 rfl)
set_option maxRecDepth 100000 in
set_option maxHeartbeats 4000000 in
theorem qX11_pay (l : Launch) (D : va_G) (ids : Nat → ClassId) (b : Nat) {x1 : Int} (Rx1 : zR x1) {x2 : Int} (Rx2 : zR x2) {x3 : Int} (Rx3 : zR x3) {v v' : zHp} {r' : Int} (hv : zV 0 137 v) (h : fX11_pay v x1 x2 x3 = some (v', r')) : zCT l yX11_pay vsX11_pay rmX11_pay D ids b 0 False 137 [zr 0, zi x1, zi x2, zi x3] v 137 (zV 0 137 v' ∧ zR r') (some (zi r')) v' 0 0 := by
  refine zMet (own := RX11) (by decide +kernel) (show vsX11_pay = _ from rfl) (Nat.le_of_ble_eq_true rfl) rfl ?_
  intro E hl hRm hD hids hb ho hz hN C hname ret
  subst hl hD hids hb
  unfold fX11_pay at h
  refine z_iload_n C (zd tX11_pay 0 rfl) rfl ?_
  obtain ⟨v1, r2, cv1, h⟩ := zcl_some h
  refine zc_S C ho hz hRm (qX11_isWorker _ _ _ _ Rx1 hv cv1) (zgS zwd_633 zwd_634 zwd_1 zwd_635) rfl pX11_isWorker rfl ⟨rfl, rfl⟩ ⟨Nat.le_of_ble_eq_true rfl, Nat.le_of_ble_eq_true rfl⟩ [] rfl (Nat.le_of_ble_eq_true rfl) (zd tX11_pay 1 rfl) [zi r2] rfl (fun p3 => ?_)
  refine z_if_eq (tgt := 14) C p3.2 (zd tX11_pay 2 rfl) (by decide) h (fun h => ?_) (fun h => ?_)
  · refine z_iconst C (zd tX11_pay 6 rfl) ?_
    obtain ⟨rfl, rfl⟩ := zpi h
    exact ret.1 _ _ _ _ ⟨p3.1, (zR_c (-1) rfl)⟩ rfl rfl rfl (zd tX11_pay 7 rfl)
  · refine z_iload_n C (zd tX11_pay 3 rfl) rfl ?_
    obtain ⟨v4, r5, cv4, h⟩ := zcl_some h
    refine zc_S C ho hz hRm (qX11_isWeek _ _ _ _ Rx2 p3.1 cv4) (zgS zwd_831 zwd_832 zwd_1 zwd_833) rfl pX11_isWeek rfl ⟨rfl, rfl⟩ ⟨Nat.le_of_ble_eq_true rfl, Nat.le_of_ble_eq_true rfl⟩ [] rfl (Nat.le_of_ble_eq_true rfl) (zd tX11_pay 4 rfl) [zi r5] rfl (fun p6 => ?_)
    refine z_if_ne (tgt := 16) C p6.2 (zd tX11_pay 5 rfl) (by decide) h (fun h => ?_) (fun h => ?_)
    · refine z_aload_n C (zd tX11_pay 8 rfl) rfl ?_
      refine z_iload_n C (zd tX11_pay 9 rfl) rfl ?_
      obtain ⟨v7, r8, cv7, h⟩ := zcl_some h
      refine zc_V C ho hz hRm (qX11_sheetOf _ _ _ _ Rx1 p6.1 cv7) (lg_0 ho) (by decide) rfl (zgV zwd_673 zwd_675 zws_12 zwd_1 zwd_676) rfl pX11_sheetOf rfl ⟨rfl, rfl⟩ ⟨Nat.le_of_ble_eq_true rfl, Nat.le_of_ble_eq_true rfl⟩ [] rfl (Nat.le_of_ble_eq_true rfl) (zd tX11_pay 10 rfl) [zr (r8).toNat] rfl (fun p9 => ?_)
      obtain ⟨u10, eu10, h⟩ := zb_some h
      have gu10 := kg_8 ho (show zK u10 = _ by rw [eu10]; exact p9.2.2)
      refine z_r0 eu10.symm ?_
      refine z_astore C (zd tX11_pay 11 rfl) (by rw [hN]; decide) ?_
      refine z_iload_n C (zd tX11_pay 12 rfl) rfl ?_
      refine z_bipush C (by decide) (zd tX11_pay 13 rfl) ?_
      refine z_imul C (zd tX11_pay 14 rfl) ?_
      obtain ⟨t11, et11, Rt11, h⟩ := zn_some h
      refine z_n0 (congrArg zI et11.symm) ?_
      refine z_istore C (zd tX11_pay 15 rfl) (by rw [hN]; decide) ?_
      refine z_aload_n C (zd tX11_pay 16 rfl) rfl ?_
      refine z_iload_n C (zd tX11_pay 17 rfl) rfl ?_
      refine z_if_eq (tgt := 42) C Rx3 (zd tX11_pay 18 rfl) (by decide) h (fun h => ?_) (fun h => ?_)
      · refine z_aload C (zd tX11_pay 22 rfl) rfl ?_
        refine gl_8_6 C gu10 zic_8 (zm zwd_269) (vl_8_6 ho p9.1 gu10) (zd tX11_pay 23 rfl) ?_
        refine z_sub (lo' := [none, none, none, none, none, some (zi t11)]) (zsub_n (zsub_n (zsub_n (zsub_n (zsub_n (zsub_s zsub_0)))))) ?_
        exact jX11_pay_J47 C hN ho hz hRm ret v7 t11 (u10 + 5) h p9.1 Rt11 (lk_8_6 ho gu10)
      · refine z_aload C (zd tX11_pay 19 rfl) rfl ?_
        refine gl_8_7 C gu10 zic_8 (zm zwd_271) (vl_8_7 ho p9.1 gu10) (zd tX11_pay 20 rfl) ?_
        refine z_goto (tgt := 47) C (zd tX11_pay 21 rfl) (by decide) ?_
        refine z_sub (lo' := [none, none, none, none, none, some (zi t11)]) (zsub_n (zsub_n (zsub_n (zsub_n (zsub_n (zsub_s zsub_0)))))) ?_
        exact jX11_pay_J47 C hN ho hz hRm ret v7 t11 (u10 + 6) h p9.1 Rt11 (lk_8_7 ho gu10)
    · refine z_iconst C (zd tX11_pay 6 rfl) ?_
      obtain ⟨rfl, rfl⟩ := zpi h
      exact ret.1 _ _ _ _ ⟨p6.1, (zR_c (-1) rfl)⟩ rfl rfl rfl (zd tX11_pay 7 rfl)
