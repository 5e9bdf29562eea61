noncomputable def vsX11_undo : List Cond := .code yX11_undo cX11_undo 3 (some .int) :: zbig
abbrev rmX11_undo : Room := { frames := 1, cells := 0, slots := 0, locals := 23 }
theorem pX11_undo : yX11_undo.cls = RX11 ∧ yX11_undo.cls ≠ "java/lang/invoke/MethodHandle" ∧ yX11_undo.cls ≠ "java/lang/invoke/VarHandle" ∧ (parseMethodDescriptor yX11_undo.desc).map (fun d => d.parameters.length) = some 0 := by decide +kernel
set_option maxRecDepth 100000 in
set_option maxHeartbeats 4000000 in
theorem jX11_undo_J101 {E : zE} (C : zC E 137 cX11_undo RX11 vsX11_undo) (hN : zEN E = 3) (ho : zEo E = 0) (hz : zEz E = False) (hRm : zER E = rmX11_undo) {v' : zHp} {r' : Int} (ret : zRet E cX11_undo 0 0 137 (some .int) (zV 0 137 v' ∧ zR r') (some (zi r')) v') (v : zHp) (x1 : Int) (x2 : Int) (h : fX11_undo_J101 v x1 x2 = some (v', r')) (hv : zV 0 137 v) (Rx1 : zR x1) (Rx2 : zR x2) : zX E 0 0 137 v 101 [some (zr 0), some (zi x1), some (zi x2)] [] := by
  unfold fX11_undo_J101 at h
  refine z_aload_n C (zd tX11_undo 55 rfl) rfl ?_
  refine gl_11_5 (t := 29) C (lg_0 ho) zic_11 (zm zwd_405) (vl_11_5 ho hv (lg_0 ho)) (zd tX11_undo 56 rfl) ?_
  refine z_iload_n C (zd tX11_undo 57 rfl) rfl ?_
  obtain ⟨q11, h⟩ := zck_some h
  obtain ⟨u12, eu12, h⟩ := zb_some h
  have gu12 := ge_Sheet ho (lg_29 ho) q11 eu12
  refine ra_Sheet C ho hv (lg_29 ho) q11 eu12 (zd tX11_undo 58 rfl) ?_
  refine z_iconst C (zd tX11_undo 59 rfl) ?_
  obtain ⟨v13, ev13, h⟩ := zb_some h
  have hv13 : zV 0 137 v13 := by rw [ev13]; exact hv.st (zR_c 1 rfl) gu12.1 (Or.inr rfl)
  refine pf_8_0 C gu12 zic_8 (zm zwd_257) (by decide) ev13 (zd tX11_undo 60 rfl) ?_
  refine z_aload_n C (zd tX11_undo 61 rfl) rfl ?_
  refine gl_11_6 (t := 102) C (lg_0 ho) zic_11 (zm zwd_406) (vl_11_6 ho hv13 (lg_0 ho)) (zd tX11_undo 62 rfl) ?_
  refine z_iload_n C (zd tX11_undo 63 rfl) rfl ?_
  obtain ⟨v14, ev14, h⟩ := zb_some h
  have hv14 : zV 0 137 v14 := by rw [ev14]; exact hv13.st Rx1 (lg_102 ho).1 (Or.inr rfl)
  refine pf_3_4 C (lg_102 ho) zic_3 (zm zwd_323) ev14 (zd tX11_undo 64 rfl) ?_
  refine z_iload_n C (zd tX11_undo 65 rfl) rfl ?_
  obtain ⟨rfl, rfl⟩ := zpi h
  exact ret.1 _ _ _ _ ⟨hv14, Rx1⟩ rfl rfl rfl (zd tX11_undo 66 rfl)
set_option maxRecDepth 100000 in
set_option maxHeartbeats 4000000 in
theorem qX11_undo (l : Launch) (D : va_G) (ids : Nat → ClassId) (b : Nat)  {v v' : zHp} {r' : Int} (hv : zV 0 137 v) (h : fX11_undo v = some (v', r')) : zCT l yX11_undo vsX11_undo rmX11_undo D ids b 0 False 137 [zr 0] v 137 (zV 0 137 v' ∧ zR r') (some (zi r')) v' 0 0 := by
  refine zMet (own := RX11) (by decide +kernel) (show vsX11_undo = _ from rfl) (Nat.le_of_ble_eq_true rfl) rfl ?_
  intro E hl hRm hD hids hb ho hz hN C hname ret
  subst hl hD hids hb
  unfold fX11_undo at h
  refine z_aload_n C (zd tX11_undo 0 rfl) rfl ?_
  refine gl_11_6 (t := 102) C (lg_0 ho) zic_11 (zm zwd_406) (vl_11_6 ho hv (lg_0 ho)) (zd tX11_undo 1 rfl) ?_
  refine gf_3_4 C (lg_102 ho) zic_3 (zm zwd_323) (zd tX11_undo 2 rfl) ?_
  refine z_if_ne (tgt := 12) C (hv.1 _ _) (zd tX11_undo 3 rfl) (by decide) h (fun h => ?_) (fun h => ?_)
  · refine z_aload_n C (zd tX11_undo 6 rfl) rfl ?_
    refine gl_11_6 (t := 102) C (lg_0 ho) zic_11 (zm zwd_406) (vl_11_6 ho hv (lg_0 ho)) (zd tX11_undo 7 rfl) ?_
    refine gf_3_4 C (lg_102 ho) zic_3 (zm zwd_323) (zd tX11_undo 8 rfl) ?_
    refine z_iconst C (zd tX11_undo 9 rfl) ?_
    refine z_isub C (zd tX11_undo 10 rfl) ?_
    obtain ⟨t1, et1, Rt1, h⟩ := zn_some h
    refine z_n0 (congrArg zI et1.symm) ?_
    refine z_istore_n C (zd tX11_undo 11 rfl) (by rw [hN]; decide) ?_
    refine z_aload_n C (zd tX11_undo 12 rfl) rfl ?_
    refine gl_11_6 (t := 102) C (lg_0 ho) zic_11 (zm zwd_406) (vl_11_6 ho hv (lg_0 ho)) (zd tX11_undo 13 rfl) ?_
    refine gl_3_0 (t := 103) C (lg_102 ho) zic_3 (zm zwd_315) (vl_3_0 ho hv (lg_102 ho)) (zd tX11_undo 14 rfl) ?_
    refine z_iload_n C (zd tX11_undo 15 rfl) rfl ?_
    obtain ⟨q2, h⟩ := zck_some h
    refine za_iald C (lg_103 ho) rfl (by decide) q2 (zd tX11_undo 16 rfl) ?_
    refine z_istore_n C (zd tX11_undo 17 rfl) (by rw [hN]; decide) ?_
    refine z_aload_n C (zd tX11_undo 18 rfl) rfl ?_
    refine gl_11_6 (t := 102) C (lg_0 ho) zic_11 (zm zwd_406) (vl_11_6 ho hv (lg_0 ho)) (zd tX11_undo 19 rfl) ?_
    refine gl_3_3 (t := 106) C (lg_102 ho) zic_3 (zm zwd_321) (vl_3_3 ho hv (lg_102 ho)) (zd tX11_undo 20 rfl) ?_
    refine z_iload_n C (zd tX11_undo 21 rfl) rfl ?_
    obtain ⟨q3, h⟩ := zck_some h
    refine za_zald C (lg_106 ho) rfl (by decide) q3 (zd tX11_undo 22 rfl) ?_
    refine z_if_eq (tgt := 74) C (hv.1 _ _) (zd tX11_undo 23 rfl) (by decide) h (fun h => ?_) (fun h => ?_)
    · refine z_aload_n C (zd tX11_undo 40 rfl) rfl ?_
      refine gl_11_4 (t := 28) C (lg_0 ho) zic_11 (zm zwd_404) (vl_11_4 ho hv (lg_0 ho)) (zd tX11_undo 41 rfl) ?_
      refine z_iload_n C (zd tX11_undo 42 rfl) rfl ?_
      obtain ⟨q4, h⟩ := zck_some h
      obtain ⟨u5, eu5, h⟩ := zb_some h
      have gu5 := ge_Card ho (lg_28 ho) q4 eu5
      refine ra_Card C ho hv (lg_28 ho) q4 eu5 (zd tX11_undo 43 rfl) ?_
      refine z_aload_n C (zd tX11_undo 44 rfl) rfl ?_
      refine gl_11_6 (t := 102) C (lg_0 ho) zic_11 (zm zwd_406) (vl_11_6 ho hv (lg_0 ho)) (zd tX11_undo 45 rfl) ?_
      refine gl_3_1 (t := 104) C (lg_102 ho) zic_3 (zm zwd_317) (vl_3_1 ho hv (lg_102 ho)) (zd tX11_undo 46 rfl) ?_
      refine z_iload_n C (zd tX11_undo 47 rfl) rfl ?_
      obtain ⟨q6, h⟩ := zck_some h
      refine za_iald C (lg_104 ho) rfl (by decide) q6 (zd tX11_undo 48 rfl) ?_
      refine z_aload_n C (zd tX11_undo 49 rfl) rfl ?_
      refine gl_11_6 (t := 102) C (lg_0 ho) zic_11 (zm zwd_406) (vl_11_6 ho hv (lg_0 ho)) (zd tX11_undo 50 rfl) ?_
      refine gl_3_2 (t := 105) C (lg_102 ho) zic_3 (zm zwd_319) (vl_3_2 ho hv (lg_102 ho)) (zd tX11_undo 51 rfl) ?_
      refine z_iload_n C (zd tX11_undo 52 rfl) rfl ?_
      obtain ⟨q7, h⟩ := zck_some h
      refine za_iald C (lg_105 ho) rfl (by decide) q7 (zd tX11_undo 53 rfl) ?_
      obtain ⟨v8, r9, cv8, h⟩ := zcl_some h
      refine zc_V C ho hz hRm (qX1_add _ _ _ _ gu5.1 (hv.1 _ _) (hv.1 _ _) hv cv8) gu5 (by decide) rfl (zgV zwd_644 zwd_645 zwd_646 zwd_7 zwd_647) rfl pX1_add rfl ⟨rfl, rfl⟩ ⟨Nat.le_of_ble_eq_true rfl, Nat.le_of_ble_eq_true rfl⟩ [] rfl (Nat.le_of_ble_eq_true rfl) (zd tX11_undo 54 rfl) [] rfl (fun p10 => ?_)
      refine z_sub (lo' := [some (zr 0), some (zi t1), some (zi (v 103 t1))]) (zsub_s (zsub_s (zsub_s zsub_0))) ?_
      exact jX11_undo_J101 C hN ho hz hRm ret v8 t1 (v 103 t1) h p10 Rt1 (hv.1 _ _)
    · refine z_aload_n C (zd tX11_undo 24 rfl) rfl ?_
      refine gl_11_4 (t := 28) C (lg_0 ho) zic_11 (zm zwd_404) (vl_11_4 ho hv (lg_0 ho)) (zd tX11_undo 25 rfl) ?_
      refine z_iload_n C (zd tX11_undo 26 rfl) rfl ?_
      obtain ⟨q15, h⟩ := zck_some h
      obtain ⟨u16, eu16, h⟩ := zb_some h
      have gu16 := ge_Card ho (lg_28 ho) q15 eu16
      refine ra_Card C ho hv (lg_28 ho) q15 eu16 (zd tX11_undo 27 rfl) ?_
      refine z_aload_n C (zd tX11_undo 28 rfl) rfl ?_
      refine gl_11_4 (t := 28) C (lg_0 ho) zic_11 (zm zwd_404) (vl_11_4 ho hv (lg_0 ho)) (zd tX11_undo 29 rfl) ?_
      refine z_iload_n C (zd tX11_undo 30 rfl) rfl ?_
      obtain ⟨q17, h⟩ := zck_some h
      obtain ⟨u18, eu18, h⟩ := zb_some h
      have gu18 := ge_Card ho (lg_28 ho) q17 eu18
      refine ra_Card C ho hv (lg_28 ho) q17 eu18 (zd tX11_undo 31 rfl) ?_
      refine z_aload_n C (zd tX11_undo 32 rfl) rfl ?_
      refine gl_11_6 (t := 102) C (lg_0 ho) zic_11 (zm zwd_406) (vl_11_6 ho hv (lg_0 ho)) (zd tX11_undo 33 rfl) ?_
      refine gl_3_1 (t := 104) C (lg_102 ho) zic_3 (zm zwd_317) (vl_3_1 ho hv (lg_102 ho)) (zd tX11_undo 34 rfl) ?_
      refine z_iload_n C (zd tX11_undo 35 rfl) rfl ?_
      obtain ⟨q19, h⟩ := zck_some h
      refine za_iald C (lg_104 ho) rfl (by decide) q19 (zd tX11_undo 36 rfl) ?_
      obtain ⟨v20, r21, cv20, h⟩ := zcl_some h
      refine zc_V C ho hz hRm (qX1_find _ _ _ _ gu18.1 (hv.1 _ _) hv cv20) gu18 (by decide) rfl (zgV zwd_660 zwd_641 zwd_642 zwd_7 zwd_643) rfl pX1_find rfl ⟨rfl, rfl⟩ ⟨Nat.le_of_ble_eq_true rfl, Nat.le_of_ble_eq_true rfl⟩ [zr u16] rfl (Nat.le_of_ble_eq_true rfl) (zd tX11_undo 37 rfl) [zi r21, zr u16] rfl (fun p22 => ?_)
      obtain ⟨v23, r24, cv23, h⟩ := zcl_some h
      refine zc_V C ho hz hRm (qX1_removeAt _ _ _ _ gu16.1 p22.2 p22.1 cv23) gu16 (by decide) rfl (zgV zwd_661 zwd_662 zwd_663 zwd_7 zwd_664) rfl pX1_removeAt rfl ⟨rfl, rfl⟩ ⟨Nat.le_of_ble_eq_true rfl, Nat.le_of_ble_eq_true rfl⟩ [] rfl (Nat.le_of_ble_eq_true rfl) (zd tX11_undo 38 rfl) [] rfl (fun p25 => ?_)
      refine z_goto (tgt := 101) C (zd tX11_undo 39 rfl) (by decide) ?_
      refine z_sub (lo' := [some (zr 0), some (zi t1), some (zi (v 103 t1))]) (zsub_s (zsub_s (zsub_s zsub_0))) ?_
      exact jX11_undo_J101 C hN ho hz hRm ret v23 t1 (v 103 t1) h p25 Rt1 (hv.1 _ _)
  · refine z_iconst C (zd tX11_undo 4 rfl) ?_
    obtain ⟨rfl, rfl⟩ := zpi h
    exact ret.1 _ _ _ _ ⟨hv, (zR_c (-1) rfl)⟩ rfl rfl rfl (zd tX11_undo 5 rfl)
noncomputable def vsX11_week : List Cond := .code yX11_week cX11_week 4 (some .int) :: zbig
abbrev rmX11_week : Room := { frames := 8, cells := 0, slots := 0, locals := 214 }
theorem pX11_week : yX11_week.cls = RX11 ∧ yX11_week.cls ≠ "java/lang/invoke/MethodHandle" ∧ yX11_week.cls ≠ "java/lang/invoke/VarHandle" ∧ (parseMethodDescriptor yX11_week.desc).map (fun d => d.parameters.length) = some 3 := by decide +kernel
set_option maxRecDepth 100000 in
set_option maxHeartbeats 4000000 in
theorem qX11_week (l : Launch) (D : va_G) (ids : Nat → ClassId) (b : Nat) {x1 : Int} (Rx1 : zR x1) {x2 : Int} (Rx2 : zR x2) {x3 : Int} (Rx3 : zR x3) {v v' : zHp} {r' : Int} (hv : zV 0 137 v) (h : fX11_week v x1 x2 x3 = some (v', r')) : zCT l yX11_week vsX11_week rmX11_week D ids b 0 False 137 [zr 0, zi x1, zi x2, zi x3] v 137 (zV 0 137 v' ∧ zR r') (some (zi r')) v' 0 0 := by
  refine zMet (own := RX11) (by decide +kernel) (show vsX11_week = _ from rfl) (Nat.le_of_ble_eq_true rfl) rfl ?_
  intro E hl hRm hD hids hb ho hz hN C hname ret
  subst hl hD hids hb
  unfold fX11_week at h
  refine z_iload_n C (zd tX11_week 0 rfl) rfl ?_
  obtain ⟨v1, r2, cv1, h⟩ := zcl_some h
  refine zc_S C ho hz hRm (qX11_isWeek _ _ _ _ Rx2 hv cv1) (zgS zwd_831 zwd_832 zwd_1 zwd_833) rfl pX11_isWeek rfl ⟨rfl, rfl⟩ ⟨Nat.le_of_ble_eq_true rfl, Nat.le_of_ble_eq_true rfl⟩ [] rfl (Nat.le_of_ble_eq_true rfl) (zd tX11_week 1 rfl) [zi r2] rfl (fun p3 => ?_)
  refine z_if_eq (tgt := 27) C p3.2 (zd tX11_week 2 rfl) (by decide) h (fun h => ?_) (fun h => ?_)
  · refine z_iconst C (zd tX11_week 16 rfl) ?_
    obtain ⟨rfl, rfl⟩ := zpi h
    exact ret.1 _ _ _ _ ⟨p3.1, (zR_c (-1) rfl)⟩ rfl rfl rfl (zd tX11_week 17 rfl)
  · refine z_aload_n C (zd tX11_week 3 rfl) rfl ?_
    refine z_iload_n C (zd tX11_week 4 rfl) rfl ?_
    refine z_iload_n C (zd tX11_week 5 rfl) rfl ?_
    refine z_bipush C (by decide) (zd tX11_week 6 rfl) ?_
    refine z_imul C (zd tX11_week 7 rfl) ?_
    refine z_iload_n C (zd tX11_week 8 rfl) rfl ?_
    refine z_bipush C (by decide) (zd tX11_week 9 rfl) ?_
    refine z_imul C (zd tX11_week 10 rfl) ?_
    refine z_bipush C (by decide) (zd tX11_week 11 rfl) ?_
    refine z_iadd C (zd tX11_week 12 rfl) ?_
    refine z_iload_n C (zd tX11_week 13 rfl) rfl ?_
    obtain ⟨t4, et4, Rt4, h⟩ := zn_some h
    refine z_nk 1 (congrArg zI et4.symm) rfl ?_
    obtain ⟨t5, et5, Rt5, h⟩ := zn_some h
    refine z_nk 2 (congrArg zI et5.symm) rfl ?_
    obtain ⟨v6, r7, cv6, h⟩ := zcl_some h
    refine zc_V C ho hz hRm (qX11_countDays _ _ _ _ Rx1 Rt5 Rt4 Rx3 p3.1 cv6) (lg_0 ho) (by decide) rfl (zgV zwd_818 zwd_820 zws_25 zwd_1 zwd_821) rfl pX11_countDays rfl ⟨rfl, rfl⟩ ⟨Nat.le_of_ble_eq_true rfl, Nat.le_of_ble_eq_true rfl⟩ [] rfl (Nat.le_of_ble_eq_true rfl) (zd tX11_week 14 rfl) [zi r7] rfl (fun p8 => ?_)
    refine z_goto (tgt := 28) C (zd tX11_week 15 rfl) (by decide) ?_
    obtain ⟨rfl, rfl⟩ := zpi h
    exact ret.1 _ _ _ _ ⟨p8.1, p8.2⟩ rfl rfl rfl (zd tX11_week 17 rfl)
noncomputable def vsX11_worth : List Cond := .code yX11_worth cX11_worth 4 (some .int) :: zbig
abbrev rmX11_worth : Room := { frames := 8, cells := 0, slots := 0, locals := 208 }
theorem pX11_worth : yX11_worth.cls = RX11 ∧ yX11_worth.cls ≠ "java/lang/invoke/MethodHandle" ∧ yX11_worth.cls ≠ "java/lang/invoke/VarHandle" ∧ (parseMethodDescriptor yX11_worth.desc).map (fun d => d.parameters.length) = some 1 := by decide +kernel
set_option maxRecDepth 100000 in
set_option maxHeartbeats 4000000 in
theorem bX11_worth_L14 {E : zE} (C : zC E 137 cX11_worth RX11 vsX11_worth) (hN : zEN E = 4) (ho : zEo E = 0) (hz : zEz E = False) (hRm : zER E = rmX11_worth) : ∀ (fu : Nat) (v : zHp) (x1 : Int) (x2 : Int) (x3 : Int) (res : (zHp × (Int))), fX11_worth_L14 fu v x1 x2 x3 = some res → zV 0 137 v → zR x1 → zR x2 → zR x3 → (∀ (w : zHp) (q : Int), res = (w, q) → zV 0 137 w → zR q → zX E 0 0 137 w 65 [some (zr 0), none, some (zi q), none] []) → zX E 0 0 137 v 14 [some (zr 0), some (zi x1), some (zi x2), some (zi x3)] [] := by
  intro fu
  induction fu with
  | zero =>
    intro v _ _ _ res h
    cases h
  | succ fu ih =>
    intro v x1 x2 x3 res h hv Rx1 Rx2 Rx3 K1
    rw [fX11_worth_L14.eq_2] at h
    refine z_iload_n C (zd tX11_worth 10 rfl) rfl ?_
    refine z_iconst C (zd tX11_worth 11 rfl) ?_
    refine z_icmp_ge (tgt := 65) C Rx3 (zR_c 4 rfl) (zd tX11_worth 12 rfl) (by decide) h (fun h => ?_) (fun h => ?_)
    · refine z_sub (lo' := [some (zr 0), none, some (zi x2), none]) (zsub_s (zsub_n (zsub_s (zsub_n zsub_0)))) ?_
      exact K1 _ _ (Option.some.inj h).symm hv Rx2
    · refine z_aload_n C (zd tX11_worth 13 rfl) rfl ?_
      refine gl_11_8 (t := 110) C (lg_0 ho) zic_11 (zm zwd_408) (vl_11_8 ho hv (lg_0 ho)) (zd tX11_worth 14 rfl) ?_
      refine z_aload_n C (zd tX11_worth 15 rfl) rfl ?_
      refine gl_11_4 (t := 28) C (lg_0 ho) zic_11 (zm zwd_404) (vl_11_4 ho hv (lg_0 ho)) (zd tX11_worth 16 rfl) ?_
      refine z_iload_n C (zd tX11_worth 17 rfl) rfl ?_
      obtain ⟨q4, h⟩ := zck_some h
      obtain ⟨u5, eu5, h⟩ := zb_some h
      have gu5 := ge_Card ho (lg_28 ho) q4 eu5
      refine ra_Card C ho hv (lg_28 ho) q4 eu5 (zd tX11_worth 18 rfl) ?_
      refine z_aload_n C (zd tX11_worth 19 rfl) rfl ?_
      obtain ⟨u6, eu6, h⟩ := zb_some h
      obtain ⟨q7, h⟩ := zck_some h
      have gu6 := kg_7 ho q7.2
      refine gl_11_2 C (lg_0 ho) zic_11 (zm zwd_402) (zdyn q7.1 eu6) (zd tX11_worth 20 rfl) ?_
      refine z_sipush C (by decide) (zd tX11_worth 21 rfl) ?_
      refine z_iconst C (zd tX11_worth 22 rfl) ?_
      refine z_iload_n C (zd tX11_worth 23 rfl) rfl ?_
      refine z_ishl C (zd tX11_worth 24 rfl) ?_
      refine z_iconst C (zd tX11_worth 25 rfl) ?_
      refine z_ixor C (zd tX11_worth 26 rfl) ?_
      refine z_iand C (zd tX11_worth 27 rfl) ?_
      refine z_aload_n C (zd tX11_worth 28 rfl) rfl ?_
      refine gl_11_9 (t := 125) C (lg_0 ho) zic_11 (zm zwd_409) (vl_11_9 ho hv (lg_0 ho)) (zd tX11_worth 29 rfl) ?_
      obtain ⟨v8, r9, cv8, h⟩ := zcl_some h
      refine zc_V C ho hz hRm (qX8_renew _ _ _ _ (lg_110 ho).1 gu5.1 gu6.1 (zR_and _ _) hv cv8) (lg_110 ho) (by decide) rfl (zgV zwd_677 zwd_678 zwd_679 zwd_8 zwd_680) rfl pX8_renew rfl ⟨rfl, rfl⟩ ⟨Nat.le_of_ble_eq_true rfl, Nat.le_of_ble_eq_true rfl⟩ [] rfl (Nat.le_of_ble_eq_true rfl) (zd tX11_worth 30 rfl) [] rfl (fun p10 => ?_)
      refine z_iload_n C (zd tX11_worth 31 rfl) rfl ?_
      refine z_aload_n C (zd tX11_worth 32 rfl) rfl ?_
      refine gl_11_8 (t := 110) C (lg_0 ho) zic_11 (zm zwd_408) (vl_11_8 ho p10 (lg_0 ho)) (zd tX11_worth 33 rfl) ?_
      obtain ⟨v11, r12, cv11, h⟩ := zcl_some h
      refine zc_V C ho hz hRm (qX8_allPay _ _ _ _ (lg_110 ho).1 p10 cv11) (lg_110 ho) (by decide) rfl (zgV zwd_856 zwd_857 zwd_858 zwd_8 zwd_859) rfl pX8_allPay rfl ⟨rfl, rfl⟩ ⟨Nat.le_of_ble_eq_true rfl, Nat.le_of_ble_eq_true rfl⟩ [zi x2] rfl (Nat.le_of_ble_eq_true rfl) (zd tX11_worth 34 rfl) [zi r12, zi x2] rfl (fun p13 => ?_)
      refine z_iadd C (zd tX11_worth 35 rfl) ?_
      obtain ⟨t14, et14, Rt14, h⟩ := zn_some h
      refine z_n0 (congrArg zI et14.symm) ?_
      refine z_istore_n C (zd tX11_worth 36 rfl) (by rw [hN]; decide) ?_
      obtain ⟨t15, et15, Rt15, h⟩ := zn_some h
      refine z_iincE C (zd tX11_worth 37 rfl) (by rw [hN]; decide) rfl et15 ?_
      refine z_goto (tgt := 14) C (zd tX11_worth 38 rfl) (by decide) ?_
      refine z_sub (lo' := [some (zr 0), some (zi x1), some (zi t14), some (zi t15)]) (zsub_s (zsub_s (zsub_s (zsub_s zsub_0)))) ?_
      exact ih v11 x1 t14 t15 _ h p13.1 Rx1 Rt14 Rt15 K1
set_option maxRecDepth 100000 in
set_option maxHeartbeats 4000000 in
theorem qX11_worth (l : Launch) (D : va_G) (ids : Nat → ClassId) (b : Nat) {x1 : Int} (Rx1 : zR x1) {v v' : zHp} {r' : Int} (hv : zV 0 137 v) (h : fX11_worth v x1 = some (v', r')) : zCT l yX11_worth vsX11_worth rmX11_worth D ids b 0 False 137 [zr 0, zi x1] v 137 (zV 0 137 v' ∧ zR r') (some (zi r')) v' 0 0 := by
  refine zMet (own := RX11) (by decide +kernel) (show vsX11_worth = _ from rfl) (Nat.le_of_ble_eq_true rfl) rfl ?_
  intro E hl hRm hD hids hb ho hz hN C hname ret
  subst hl hD hids hb
  unfold fX11_worth at h
  refine z_aload_n C (zd tX11_worth 0 rfl) rfl ?_
  refine z_iload_n C (zd tX11_worth 1 rfl) rfl ?_
  obtain ⟨v1, r2, cv1, h⟩ := zcl_some h
  refine zc_V C ho hz hRm (qX11_isPremium _ _ _ _ Rx1 hv cv1) (lg_0 ho) (by decide) rfl (zgV zwd_822 zwd_824 zws_26 zwd_1 zwd_825) rfl pX11_isPremium rfl ⟨rfl, rfl⟩ ⟨Nat.le_of_ble_eq_true rfl, Nat.le_of_ble_eq_true rfl⟩ [] rfl (Nat.le_of_ble_eq_true rfl) (zd tX11_worth 2 rfl) [zi r2] rfl (fun p3 => ?_)
  refine z_if_ne (tgt := 10) C p3.2 (zd tX11_worth 3 rfl) (by decide) h (fun h => ?_) (fun h => ?_)
  · refine z_iconst C (zd tX11_worth 6 rfl) ?_
    refine z_istore_n C (zd tX11_worth 7 rfl) (by rw [hN]; decide) ?_
    refine z_iconst C (zd tX11_worth 8 rfl) ?_
    refine z_istore_n C (zd tX11_worth 9 rfl) (by rw [hN]; decide) ?_
    refine z_sub (lo' := [some (zr 0), some (zi x1), some (zi 0), some (zi 0)]) (zsub_s (zsub_s (zsub_s (zsub_s zsub_0)))) ?_
    obtain ⟨v16, w17, lv16, h⟩ := zl_some h
    refine bX11_worth_L14 C hN ho hz hRm zFU v1 x1 0 0 _ lv16 p3.1 Rx1 (zR_c 0 rfl) (zR_c 0 rfl) (fun w1 q1 e1 hv16 Rw17 => ?_)
    obtain ⟨rfl, rfl⟩ := zpp e1
    refine z_aload_n C (zd tX11_worth 39 rfl) rfl ?_
    obtain ⟨v18, r19, cv18, h⟩ := zcl_some h
    refine zc_V C ho hz hRm (qX11_total _ _ _ _ hv16 cv18) (lg_0 ho) (by decide) rfl (zgV zwd_881 zwd_853 zwd_854 zwd_1 zwd_855) rfl pX11_total rfl ⟨rfl, rfl⟩ ⟨Nat.le_of_ble_eq_true rfl, Nat.le_of_ble_eq_true rfl⟩ [] rfl (Nat.le_of_ble_eq_true rfl) (zd tX11_worth 40 rfl) [zi r19] rfl (fun p20 => ?_)
    refine z_iload_n C (zd tX11_worth 41 rfl) rfl ?_
    refine z_isub C (zd tX11_worth 42 rfl) ?_
    obtain ⟨t21, et21, Rt21, h⟩ := zn_some h
    refine z_n0 (congrArg zI et21.symm) ?_
    obtain ⟨rfl, rfl⟩ := zpi h
    exact ret.1 _ _ _ _ ⟨p20.1, Rt21⟩ rfl rfl rfl (zd tX11_worth 43 rfl)
  · refine z_iconst C (zd tX11_worth 4 rfl) ?_
    obtain ⟨rfl, rfl⟩ := zpi h
    exact ret.1 _ _ _ _ ⟨p3.1, (zR_c (-1) rfl)⟩ rfl rfl rfl (zd tX11_worth 5 rfl)
noncomputable def vsX11_would : List Cond := .code yX11_would cX11_would 7 (some .int) :: zbig
abbrev rmX11_would : Room := { frames := 7, cells := 0, slots := 0, locals := 187 }
theorem pX11_would : yX11_would.cls = RX11 ∧ yX11_would.cls ≠ "java/lang/invoke/MethodHandle" ∧ yX11_would.cls ≠ "java/lang/invoke/VarHandle" ∧ (parseMethodDescriptor yX11_would.desc).map (fun d => d.parameters.length) = some 5 := by decide +kernel
set_option maxRecDepth 100000 in
set_option maxHeartbeats 4000000 in
theorem qX11_would (l : Launch) (D : va_G) (ids : Nat → ClassId) (b : Nat) {x1 : Int} (Rx1 : zR x1) {x2 : Int} (Rx2 : zR x2) {x3 : Int} (Rx3 : zR x3) {x4 : Int} (Rx4 : zR x4) {x5 : Int} (Rx5 : zR x5) {v v' : zHp} {r' : Int} (hv : zV 0 137 v) (h : fX11_would v x1 x2 x3 x4 x5 = some (v', r')) : zCT l yX11_would vsX11_would rmX11_would D ids b 0 False 137 [zr 0, zi x1, zi x2, zi x3, zi x4, zi x5] v 137 (zV 0 137 v' ∧ zR r') (some (zi r')) v' 0 0 := by
  refine zMet (own := RX11) (by decide +kernel) (show vsX11_would = _ from rfl) (Nat.le_of_ble_eq_true rfl) rfl ?_
  intro E hl hRm hD hids hb ho hz hN C hname ret
  subst hl hD hids hb
  unfold fX11_would at h
  refine z_aload_n C (zd tX11_would 0 rfl) rfl ?_
  refine z_iload_n C (zd tX11_would 1 rfl) rfl ?_
  refine z_iload_n C (zd tX11_would 2 rfl) rfl ?_
  refine z_iload_n C (zd tX11_would 3 rfl) rfl ?_
  refine z_iload C (zd tX11_would 4 rfl) rfl ?_
  refine z_iload C (zd tX11_would 5 rfl) rfl ?_
  obtain ⟨v1, r2, cv1, h⟩ := zcl_some h
  refine zc_V C ho hz hRm (qX11_freeMoment _ _ _ _ Rx1 Rx2 Rx3 Rx4 Rx5 hv cv1) (lg_0 ho) (by decide) rfl (zgV zwd_629 zwd_631 zws_10 zwd_1 zwd_632) rfl pX11_freeMoment rfl ⟨rfl, rfl⟩ ⟨Nat.le_of_ble_eq_true rfl, Nat.le_of_ble_eq_true rfl⟩ [] rfl (Nat.le_of_ble_eq_true rfl) (zd tX11_would 6 rfl) [zi r2] rfl (fun p3 => ?_)
  refine z_istore C (zd tX11_would 7 rfl) (by rw [hN]; decide) ?_
  refine z_iload C (zd tX11_would 8 rfl) rfl ?_
  refine z_iconst C (zd tX11_would 9 rfl) ?_
  refine z_icmp_ne (tgt := 23) C p3.2 (zR_c (-1) rfl) (zd tX11_would 10 rfl) (by decide) h (fun h => ?_) (fun h => ?_)
  · refine z_aload_n C (zd tX11_would 13 rfl) rfl ?_
    refine z_iload_n C (zd tX11_would 14 rfl) rfl ?_
    refine z_iload_n C (zd tX11_would 15 rfl) rfl ?_
    refine z_iload C (zd tX11_would 16 rfl) rfl ?_
    obtain ⟨v4, r5, cv4, h⟩ := zcl_some h
    refine zc_V C ho hz hRm (qX11_payWith _ _ _ _ Rx1 Rx2 p3.2 p3.1 cv4) (lg_0 ho) (by decide) rfl (zgV zwd_865 zwd_867 zws_28 zwd_1 zwd_868) rfl pX11_payWith rfl ⟨rfl, rfl⟩ ⟨Nat.le_of_ble_eq_true rfl, Nat.le_of_ble_eq_true rfl⟩ [] rfl (Nat.le_of_ble_eq_true rfl) (zd tX11_would 17 rfl) [zi r5] rfl (fun p6 => ?_)
    refine z_aload_n C (zd tX11_would 18 rfl) rfl ?_
    refine z_iload_n C (zd tX11_would 19 rfl) rfl ?_
    obtain ⟨v7, r8, cv7, h⟩ := zcl_some h
    refine zc_V C ho hz hRm (qX11_sheetOf _ _ _ _ Rx1 p6.1 cv7) (lg_0 ho) (by decide) rfl (zgV zwd_673 zwd_675 zws_12 zwd_1 zwd_676) rfl pX11_sheetOf rfl ⟨rfl, rfl⟩ ⟨Nat.le_of_ble_eq_true rfl, Nat.le_of_ble_eq_true rfl⟩ [zi r5] rfl (Nat.le_of_ble_eq_true rfl) (zd tX11_would 20 rfl) [zr (r8).toNat, zi r5] rfl (fun p9 => ?_)
    obtain ⟨u10, eu10, h⟩ := zb_some h
    have gu10 := kg_8 ho (show zK u10 = _ by rw [eu10]; exact p9.2.2)
    refine z_r0 eu10.symm ?_
    obtain ⟨v11, r12, cv11, h⟩ := zcl_some h
    refine zc_V C ho hz hRm (qX8_allPay _ _ _ _ gu10.1 p9.1 cv11) gu10 (by decide) rfl (zgV zwd_856 zwd_857 zwd_858 zwd_8 zwd_859) rfl pX8_allPay rfl ⟨rfl, rfl⟩ ⟨Nat.le_of_ble_eq_true rfl, Nat.le_of_ble_eq_true rfl⟩ [zi r5] rfl (Nat.le_of_ble_eq_true rfl) (zd tX11_would 21 rfl) [zi r12, zi r5] rfl (fun p13 => ?_)
    refine z_isub C (zd tX11_would 22 rfl) ?_
    obtain ⟨t14, et14, Rt14, h⟩ := zn_some h
    refine z_n0 (congrArg zI et14.symm) ?_
    obtain ⟨rfl, rfl⟩ := zpi h
    exact ret.1 _ _ _ _ ⟨p13.1, Rt14⟩ rfl rfl rfl (zd tX11_would 23 rfl)
  · refine z_ldcw (x := (-2147483648 : Int32)) (i := (-2147483648)) C (by decide) (zm zwd_864) (zd tX11_would 11 rfl) ?_
    obtain ⟨rfl, rfl⟩ := zpi h
    exact ret.1 _ _ _ _ ⟨p3.1, (zR_c (-2147483648) rfl)⟩ rfl rfl rfl (zd tX11_would 12 rfl)
