noncomputable def vsX12_about : List Cond := .code yX12_about cX12_about 1 (some .int) :: zbig
abbrev rmX12_about : Room := { frames := 0, cells := 0, slots := 0, locals := 0 }
theorem pX12_about : yX12_about.cls = RX12 ∧ yX12_about.cls ≠ "java/lang/invoke/MethodHandle" ∧ yX12_about.cls ≠ "java/lang/invoke/VarHandle" ∧ (parseMethodDescriptor yX12_about.desc).map (fun d => d.parameters.length) = some 1 := by decide +kernel
set_option maxRecDepth 100000 in
set_option maxHeartbeats 4000000 in
theorem qX12_about (l : Launch) (D : va_G) (ids : Nat → ClassId) (b : Nat) {x0 : Int} (Rx0 : zR x0) {v v' : zHp} {r' : Int} (hv : zV 137 24 v) (h : fX12_about v x0 = some (v', r')) : zCT l yX12_about vsX12_about rmX12_about D ids b 137 False 24 [zi x0] v 24 (zV 137 24 v' ∧ zR r') (some (zi r')) v' 0 0 := by
  refine zMet (own := RX12) (by decide +kernel) (show vsX12_about = _ from rfl) (Nat.le_of_ble_eq_true rfl) rfl ?_
  intro E hl hRm hD hids hb ho hz hN C hname ret
  subst hl hD hids hb
  unfold fX12_about at h
  refine z_iload_n C (zd tX12_about 0 rfl) rfl ?_
  refine z_if_ne (tgt := 8) C Rx0 (zd tX12_about 1 rfl) (by decide) h (fun h => ?_) (fun h => ?_)
  · refine z_sipush C (by decide) (zd tX12_about 4 rfl) ?_
    refine z_iload_n C (zd tX12_about 5 rfl) rfl ?_
    refine z_imul C (zd tX12_about 6 rfl) ?_
    refine z_bipush C (by decide) (zd tX12_about 7 rfl) ?_
    refine z_isub C (zd tX12_about 8 rfl) ?_
    obtain ⟨t1, et1, Rt1, h⟩ := zn_some h
    refine z_n0 (congrArg zI et1.symm) ?_
    obtain ⟨rfl, rfl⟩ := zpi h
    exact ret.1 _ _ _ _ ⟨hv, Rt1⟩ rfl rfl rfl (zd tX12_about 9 rfl)
  · refine z_iconst C (zd tX12_about 2 rfl) ?_
    refine z_goto (tgt := 16) C (zd tX12_about 3 rfl) (by decide) ?_
    obtain ⟨rfl, rfl⟩ := zpi h
    exact ret.1 _ _ _ _ ⟨hv, (zR_c 0 rfl)⟩ rfl rfl rfl (zd tX12_about 9 rfl)
noncomputable def vsX12_adds : List Cond := .code yX12_adds cX12_adds 4 none :: zbig
abbrev rmX12_adds : Room := { frames := 0, cells := 0, slots := 0, locals := 0 }
theorem pX12_adds : yX12_adds.cls = RX12 ∧ yX12_adds.cls ≠ "java/lang/invoke/MethodHandle" ∧ yX12_adds.cls ≠ "java/lang/invoke/VarHandle" ∧ (parseMethodDescriptor yX12_adds.desc).map (fun d => d.parameters.length) = some 3 := by decide +kernel
set_option maxRecDepth 100000 in
set_option maxHeartbeats 4000000 in
theorem qX12_adds (l : Launch) (D : va_G) (ids : Nat → ClassId) (b : Nat) {x1 : Int} (Rx1 : zR x1) {x2 : Int} (Rx2 : zR x2) {x3 : Int} (Rx3 : zR x3) {v v' : zHp} {r' : Int} (hv : zV 137 24 v) (h : fX12_adds v x1 x2 x3 = some (v', r')) : zCT l yX12_adds vsX12_adds rmX12_adds D ids b 137 False 24 [zr 137, zi x1, zi x2, zi x3] v 24 (zV 137 24 v') none v' 0 0 := by
  refine zMet (own := RX12) (by decide +kernel) (show vsX12_adds = _ from rfl) (Nat.le_of_ble_eq_true rfl) rfl ?_
  intro E hl hRm hD hids hb ho hz hN C hname ret
  subst hl hD hids hb
  unfold fX12_adds at h
  refine z_iload_n C (zd tX12_adds 0 rfl) rfl ?_
  refine z_if_eq (tgt := 33) C Rx3 (zd tX12_adds 1 rfl) (by decide) h (fun h => ?_) (fun h => ?_)
  · refine z_aload_n C (zd tX12_adds 19 rfl) rfl ?_
    refine gl_12_31 (t := 156) C (lg_137 ho) zic_12 (zm zwd_1021) (vl_12_31 ho hv (lg_137 ho)) (zd tX12_adds 20 rfl) ?_
    refine z_iload_n C (zd tX12_adds 21 rfl) rfl ?_
    refine z_iload_n C (zd tX12_adds 22 rfl) rfl ?_
    refine z_aload_n C (zd tX12_adds 23 rfl) rfl ?_
    refine gl_12_31 (t := 156) C (lg_137 ho) zic_12 (zm zwd_1021) (vl_12_31 ho hv (lg_137 ho)) (zd tX12_adds 24 rfl) ?_
    refine z_iload_n C (zd tX12_adds 25 rfl) rfl ?_
    obtain ⟨q1, h⟩ := zck_some h
    refine za_iald C (lg_156 ho) rfl (by decide) q1 (zd tX12_adds 26 rfl) ?_
    refine z_icmp_le (tgt := 52) C Rx2 (hv.1 _ _) (zd tX12_adds 27 rfl) (by decide) h (fun h => ?_) (fun h => ?_)
    · refine z_aload_n C (zd tX12_adds 30 rfl) rfl ?_
      refine gl_12_31 (t := 156) C (lg_137 ho) zic_12 (zm zwd_1021) (vl_12_31 ho hv (lg_137 ho)) (zd tX12_adds 31 rfl) ?_
      refine z_iload_n C (zd tX12_adds 32 rfl) rfl ?_
      obtain ⟨q2, h⟩ := zck_some h
      refine za_iald C (lg_156 ho) rfl (by decide) q2 (zd tX12_adds 33 rfl) ?_
      obtain ⟨q3, h⟩ := zck_some h
      obtain ⟨v4, ev4, h⟩ := zb_some h
      have hv4 : zV 137 24 v4 := by rw [ev4]; exact hv.st (hv.1 _ _) (lg_156 ho).1 (Or.inr rfl)
      refine za_iast C (lg_156 ho) rfl (by decide) q3 ev4 (zd tX12_adds 34 rfl) ?_
      obtain ⟨rfl, rfl⟩ := zpi h
      exact ret.2.1 _ _ hv4 rfl rfl (zd tX12_adds 35 rfl)
    · refine z_iload_n C (zd tX12_adds 28 rfl) rfl ?_
      refine z_goto (tgt := 58) C (zd tX12_adds 29 rfl) (by decide) ?_
      obtain ⟨q5, h⟩ := zck_some h
      obtain ⟨v6, ev6, h⟩ := zb_some h
      have hv6 : zV 137 24 v6 := by rw [ev6]; exact hv.st Rx2 (lg_156 ho).1 (Or.inr rfl)
      refine za_iast C (lg_156 ho) rfl (by decide) q5 ev6 (zd tX12_adds 34 rfl) ?_
      obtain ⟨rfl, rfl⟩ := zpi h
      exact ret.2.1 _ _ hv6 rfl rfl (zd tX12_adds 35 rfl)
  · refine z_aload_n C (zd tX12_adds 2 rfl) rfl ?_
    refine gl_12_30 (t := 155) C (lg_137 ho) zic_12 (zm zwd_1020) (vl_12_30 ho hv (lg_137 ho)) (zd tX12_adds 3 rfl) ?_
    refine z_iload_n C (zd tX12_adds 4 rfl) rfl ?_
    refine z_iload_n C (zd tX12_adds 5 rfl) rfl ?_
    refine z_aload_n C (zd tX12_adds 6 rfl) rfl ?_
    refine gl_12_30 (t := 155) C (lg_137 ho) zic_12 (zm zwd_1020) (vl_12_30 ho hv (lg_137 ho)) (zd tX12_adds 7 rfl) ?_
    refine z_iload_n C (zd tX12_adds 8 rfl) rfl ?_
    obtain ⟨q7, h⟩ := zck_some h
    refine za_iald C (lg_155 ho) rfl (by decide) q7 (zd tX12_adds 9 rfl) ?_
    refine z_icmp_le (tgt := 23) C Rx2 (hv.1 _ _) (zd tX12_adds 10 rfl) (by decide) h (fun h => ?_) (fun h => ?_)
    · refine z_aload_n C (zd tX12_adds 13 rfl) rfl ?_
      refine gl_12_30 (t := 155) C (lg_137 ho) zic_12 (zm zwd_1020) (vl_12_30 ho hv (lg_137 ho)) (zd tX12_adds 14 rfl) ?_
      refine z_iload_n C (zd tX12_adds 15 rfl) rfl ?_
      obtain ⟨q8, h⟩ := zck_some h
      refine za_iald C (lg_155 ho) rfl (by decide) q8 (zd tX12_adds 16 rfl) ?_
      obtain ⟨q9, h⟩ := zck_some h
      obtain ⟨v10, ev10, h⟩ := zb_some h
      have hv10 : zV 137 24 v10 := by rw [ev10]; exact hv.st (hv.1 _ _) (lg_155 ho).1 (Or.inr rfl)
      refine za_iast C (lg_155 ho) rfl (by decide) q9 ev10 (zd tX12_adds 17 rfl) ?_
      refine z_goto (tgt := 59) C (zd tX12_adds 18 rfl) (by decide) ?_
      obtain ⟨rfl, rfl⟩ := zpi h
      exact ret.2.1 _ _ hv10 rfl rfl (zd tX12_adds 35 rfl)
    · refine z_iload_n C (zd tX12_adds 11 rfl) rfl ?_
      refine z_goto (tgt := 29) C (zd tX12_adds 12 rfl) (by decide) ?_
      obtain ⟨q11, h⟩ := zck_some h
      obtain ⟨v12, ev12, h⟩ := zb_some h
      have hv12 : zV 137 24 v12 := by rw [ev12]; exact hv.st Rx2 (lg_155 ho).1 (Or.inr rfl)
      refine za_iast C (lg_155 ho) rfl (by decide) q11 ev12 (zd tX12_adds 17 rfl) ?_
      refine z_goto (tgt := 59) C (zd tX12_adds 18 rfl) (by decide) ?_
      obtain ⟨rfl, rfl⟩ := zpi h
      exact ret.2.1 _ _ hv12 rfl rfl (zd tX12_adds 35 rfl)
noncomputable def vsX12_premiumIs : List Cond := .code yX12_premiumIs cX12_premiumIs 3 (some .int) :: zbig
abbrev rmX12_premiumIs : Room := { frames := 0, cells := 0, slots := 0, locals := 0 }
theorem pX12_premiumIs : yX12_premiumIs.cls = RX12 ∧ yX12_premiumIs.cls ≠ "java/lang/invoke/MethodHandle" ∧ yX12_premiumIs.cls ≠ "java/lang/invoke/VarHandle" ∧ (parseMethodDescriptor yX12_premiumIs.desc).map (fun d => d.parameters.length) = some 2 := by decide +kernel
set_option maxRecDepth 100000 in
set_option maxHeartbeats 4000000 in
theorem qX12_premiumIs (l : Launch) (D : va_G) (ids : Nat → ClassId) (b : Nat) {x1 : Int} (Rx1 : zR x1) {x2 : Int} (Rx2 : zR x2) {v v' : zHp} {r' : Int} (hv : zV 137 24 v) (h : fX12_premiumIs v x1 x2 = some (v', r')) : zCT l yX12_premiumIs vsX12_premiumIs rmX12_premiumIs D ids b 137 False 24 [zr 137, zi x1, zi x2] v 24 (zV 137 24 v' ∧ zR r') (some (zi r')) v' 0 0 := by
  refine zMet (own := RX12) (by decide +kernel) (show vsX12_premiumIs = _ from rfl) (Nat.le_of_ble_eq_true rfl) rfl ?_
  intro E hl hRm hD hids hb ho hz hN C hname ret
  subst hl hD hids hb
  unfold fX12_premiumIs at h
  refine z_aload_n C (zd tX12_premiumIs 0 rfl) rfl ?_
  refine gl_12_10 (t := 139) C (lg_137 ho) zic_12 (zm zwd_1000) (vl_12_10 ho hv (lg_137 ho)) (zd tX12_premiumIs 1 rfl) ?_
  refine z_bipush C (by decide) (zd tX12_premiumIs 2 rfl) ?_
  refine z_iconst C (zd tX12_premiumIs 3 rfl) ?_
  refine z_iload_n C (zd tX12_premiumIs 4 rfl) rfl ?_
  refine z_imul C (zd tX12_premiumIs 5 rfl) ?_
  refine z_iadd C (zd tX12_premiumIs 6 rfl) ?_
  refine z_iload_n C (zd tX12_premiumIs 7 rfl) rfl ?_
  refine z_iadd C (zd tX12_premiumIs 8 rfl) ?_
  obtain ⟨q1, h⟩ := zck_some h
  refine za_iald C (lg_139 ho) rfl (by decide) q1 (zd tX12_premiumIs 9 rfl) ?_
  obtain ⟨rfl, rfl⟩ := zpi h
  exact ret.1 _ _ _ _ ⟨hv, (hv.1 _ _)⟩ rfl rfl rfl (zd tX12_premiumIs 10 rfl)
noncomputable def vsX12_premiums : List Cond := .code yX12_premiums cX12_premiums 1 (some .int) :: zbig
abbrev rmX12_premiums : Room := { frames := 0, cells := 0, slots := 0, locals := 0 }
theorem pX12_premiums : yX12_premiums.cls = RX12 ∧ yX12_premiums.cls ≠ "java/lang/invoke/MethodHandle" ∧ yX12_premiums.cls ≠ "java/lang/invoke/VarHandle" ∧ (parseMethodDescriptor yX12_premiums.desc).map (fun d => d.parameters.length) = some 0 := by decide +kernel
set_option maxRecDepth 100000 in
set_option maxHeartbeats 4000000 in
theorem qX12_premiums (l : Launch) (D : va_G) (ids : Nat → ClassId) (b : Nat)  {v v' : zHp} {r' : Int} (hv : zV 137 24 v) (h : fX12_premiums v = some (v', r')) : zCT l yX12_premiums vsX12_premiums rmX12_premiums D ids b 137 False 24 [zr 137] v 24 (zV 137 24 v' ∧ zR r') (some (zi r')) v' 0 0 := by
  refine zMet (own := RX12) (by decide +kernel) (show vsX12_premiums = _ from rfl) (Nat.le_of_ble_eq_true rfl) rfl ?_
  intro E hl hRm hD hids hb ho hz hN C hname ret
  subst hl hD hids hb
  unfold fX12_premiums at h
  refine z_aload_n C (zd tX12_premiums 0 rfl) rfl ?_
  refine gl_12_10 (t := 139) C (lg_137 ho) zic_12 (zm zwd_1000) (vl_12_10 ho hv (lg_137 ho)) (zd tX12_premiums 1 rfl) ?_
  refine z_bipush C (by decide) (zd tX12_premiums 2 rfl) ?_
  obtain ⟨q1, h⟩ := zck_some h
  refine za_iald C (lg_139 ho) rfl (by decide) q1 (zd tX12_premiums 3 rfl) ?_
  obtain ⟨rfl, rfl⟩ := zpi h
  exact ret.1 _ _ _ _ ⟨hv, (hv.1 _ _)⟩ rfl rfl rfl (zd tX12_premiums 4 rfl)
noncomputable def vsX12_laysWeekPremiums : List Cond := .code yX12_laysWeekPremiums cX12_laysWeekPremiums 3 none :: zbig
abbrev rmX12_laysWeekPremiums : Room := { frames := 1, cells := 0, slots := 0, locals := 23 }
theorem pX12_laysWeekPremiums : yX12_laysWeekPremiums.cls = RX12 ∧ yX12_laysWeekPremiums.cls ≠ "java/lang/invoke/MethodHandle" ∧ yX12_laysWeekPremiums.cls ≠ "java/lang/invoke/VarHandle" ∧ (parseMethodDescriptor yX12_laysWeekPremiums.desc).map (fun d => d.parameters.length) = some 0 := by decide +kernel
set_option maxRecDepth 100000 in
set_option maxHeartbeats 4000000 in
theorem jX12_laysWeekPremiums_J76 {E : zE} (C : zC E 24 cX12_laysWeekPremiums RX12 vsX12_laysWeekPremiums) (hN : zEN E = 3) (ho : zEo E = 137) (hz : zEz E = False) (hRm : zER E = rmX12_laysWeekPremiums) (rc : zHp → Int → Int → Option (zHp × (Int))) (res : (zHp × (Int))) (v : zHp) (x1 : Int) (x2 : Int) (s1 : Int) (s2 : Int) (s3 : Int) (K1 : ∀ (w : zHp) (q : Int), res = (w, q) → zV 137 24 w → True → zX E 0 0 24 w 85 [some (zr 137), some (zi x1), none] []) (hrc0 : True) (h : fX12_laysWeekPremiums_J76 rc v x1 x2 s1 s2 s3 = some res) (hv : zV 137 24 v) (Rx1 : zR x1) (Rx2 : zR x2) (Rs1 : zR s1) (Rs2 : zR s2) (Rs3 : zR s3) (hrc : ∀ (v : zHp) (z2 : Int), rc v x1 z2 = some res → zV 137 24 v → zR z2 → zX E 0 0 24 v 25 [some (zr 137), some (zi x1), some (zi z2)] []): zX E 0 0 24 v 76 [some (zr 137), some (zi x1), some (zi x2)] [zi s3, zi s2, zi s1, zr 137] := by
  unfold fX12_laysWeekPremiums_J76 at h
  obtain ⟨v22, r23, cv22, h⟩ := zcl_some h
  refine zc_V C ho hz hRm (qX12_adds _ _ _ _ Rs1 Rs2 Rs3 hv cv22) (lg_137 ho) (by decide) rfl (zgV zwd_1303 zwd_1305 zws_70 zwd_13 zwd_1306) rfl pX12_adds rfl ⟨rfl, rfl⟩ ⟨Nat.le_of_ble_eq_true rfl, Nat.le_of_ble_eq_true rfl⟩ [] rfl (Nat.le_of_ble_eq_true rfl) (zd tX12_laysWeekPremiums 48 rfl) [] rfl (fun p24 => ?_)
  obtain ⟨t25, et25, Rt25, h⟩ := zn_some h
  refine z_iincE C (zd tX12_laysWeekPremiums 49 rfl) (by rw [hN]; decide) rfl et25 ?_
  refine z_goto (tgt := 25) C (zd tX12_laysWeekPremiums 50 rfl) (by decide) ?_
  refine z_sub (lo' := [some (zr 137), some (zi x1), some (zi t25)]) (zsub_s (zsub_s (zsub_s zsub_0))) ?_
  exact hrc v22 t25 h p24 Rt25
set_option maxRecDepth 100000 in
set_option maxHeartbeats 4000000 in
theorem bX12_laysWeekPremiums_L25 {E : zE} (C : zC E 24 cX12_laysWeekPremiums RX12 vsX12_laysWeekPremiums) (hN : zEN E = 3) (ho : zEo E = 137) (hz : zEz E = False) (hRm : zER E = rmX12_laysWeekPremiums) : ∀ (fu : Nat) (v : zHp) (x1 : Int) (x2 : Int) (res : (zHp × (Int))), fX12_laysWeekPremiums_L25 fu v x1 x2 = some res → zV 137 24 v → zR x1 → zR x2 → (∀ (w : zHp) (q : Int), res = (w, q) → zV 137 24 w → True → zX E 0 0 24 w 85 [some (zr 137), some (zi x1), none] []) → zX E 0 0 24 v 25 [some (zr 137), some (zi x1), some (zi x2)] [] := by
  intro fu
  induction fu with
  | zero =>
    intro v _ _ res h
    cases h
  | succ fu ih =>
    intro v x1 x2 res h hv Rx1 Rx2 K1
    rw [fX12_laysWeekPremiums_L25.eq_2] at h
    refine z_iload_n C (zd tX12_laysWeekPremiums 17 rfl) rfl ?_
    refine z_aload_n C (zd tX12_laysWeekPremiums 18 rfl) rfl ?_
    obtain ⟨v5, r6, cv5, h⟩ := zcl_some h
    refine zc_V C ho hz hRm (qX12_premiums _ _ _ _ hv cv5) (lg_137 ho) (by decide) rfl (zgV zwd_1173 zwd_1175 zws_46 zwd_13 zwd_1176) rfl pX12_premiums rfl ⟨rfl, rfl⟩ ⟨Nat.le_of_ble_eq_true rfl, Nat.le_of_ble_eq_true rfl⟩ [zi x2] rfl (Nat.le_of_ble_eq_true rfl) (zd tX12_laysWeekPremiums 19 rfl) [zi r6, zi x2] rfl (fun p7 => ?_)
    refine z_icmp_ge (tgt := 85) C Rx2 p7.2 (zd tX12_laysWeekPremiums 20 rfl) (by decide) h (fun h => ?_) (fun h => ?_)
    · refine z_sub (lo' := [some (zr 137), some (zi x1), none]) (zsub_s (zsub_s (zsub_n zsub_0))) ?_
      exact K1 _ _ (Option.some.inj h).symm p7.1 trivial
    · refine z_aload_n C (zd tX12_laysWeekPremiums 21 rfl) rfl ?_
      refine z_iload_n C (zd tX12_laysWeekPremiums 22 rfl) rfl ?_
      refine z_iconst C (zd tX12_laysWeekPremiums 23 rfl) ?_
      obtain ⟨v8, r9, cv8, h⟩ := zcl_some h
      refine zc_V C ho hz hRm (qX12_premiumIs _ _ _ _ Rx2 (zR_c 0 rfl) p7.1 cv8) (lg_137 ho) (by decide) rfl (zgV zwd_1177 zwd_1179 zws_47 zwd_13 zwd_1180) rfl pX12_premiumIs rfl ⟨rfl, rfl⟩ ⟨Nat.le_of_ble_eq_true rfl, Nat.le_of_ble_eq_true rfl⟩ [] rfl (Nat.le_of_ble_eq_true rfl) (zd tX12_laysWeekPremiums 24 rfl) [zi r9] rfl (fun p10 => ?_)
      refine z_iconst C (zd tX12_laysWeekPremiums 25 rfl) ?_
      refine z_icmp_ne (tgt := 79) C p10.2 (zR_c 1 rfl) (zd tX12_laysWeekPremiums 26 rfl) (by decide) h (fun h => ?_) (fun h => ?_)
      · obtain ⟨t11, et11, Rt11, h⟩ := zn_some h
        refine z_iincE C (zd tX12_laysWeekPremiums 49 rfl) (by rw [hN]; decide) rfl et11 ?_
        refine z_goto (tgt := 25) C (zd tX12_laysWeekPremiums 50 rfl) (by decide) ?_
        refine z_sub (lo' := [some (zr 137), some (zi x1), some (zi t11)]) (zsub_s (zsub_s (zsub_s zsub_0))) ?_
        exact ih v8 x1 t11 _ h p10.1 Rx1 Rt11 K1
      · refine z_iload_n C (zd tX12_laysWeekPremiums 27 rfl) rfl ?_
        refine z_aload_n C (zd tX12_laysWeekPremiums 28 rfl) rfl ?_
        refine z_iload_n C (zd tX12_laysWeekPremiums 29 rfl) rfl ?_
        refine z_iconst C (zd tX12_laysWeekPremiums 30 rfl) ?_
        obtain ⟨v12, r13, cv12, h⟩ := zcl_some h
        refine zc_V C ho hz hRm (qX12_premiumIs _ _ _ _ Rx2 (zR_c 3 rfl) p10.1 cv12) (lg_137 ho) (by decide) rfl (zgV zwd_1177 zwd_1179 zws_47 zwd_13 zwd_1180) rfl pX12_premiumIs rfl ⟨rfl, rfl⟩ ⟨Nat.le_of_ble_eq_true rfl, Nat.le_of_ble_eq_true rfl⟩ [zi x1] rfl (Nat.le_of_ble_eq_true rfl) (zd tX12_laysWeekPremiums 31 rfl) [zi r13, zi x1] rfl (fun p14 => ?_)
        refine z_icmp_lt (tgt := 79) C Rx1 p14.2 (zd tX12_laysWeekPremiums 32 rfl) (by decide) h (fun h => ?_) (fun h => ?_)
        · obtain ⟨t15, et15, Rt15, h⟩ := zn_some h
          refine z_iincE C (zd tX12_laysWeekPremiums 49 rfl) (by rw [hN]; decide) rfl et15 ?_
          refine z_goto (tgt := 25) C (zd tX12_laysWeekPremiums 50 rfl) (by decide) ?_
          refine z_sub (lo' := [some (zr 137), some (zi x1), some (zi t15)]) (zsub_s (zsub_s (zsub_s zsub_0))) ?_
          exact ih v12 x1 t15 _ h p14.1 Rx1 Rt15 K1
        · refine z_aload_n C (zd tX12_laysWeekPremiums 33 rfl) rfl ?_
          refine z_iload_n C (zd tX12_laysWeekPremiums 34 rfl) rfl ?_
          refine z_aload_n C (zd tX12_laysWeekPremiums 35 rfl) rfl ?_
          refine z_iload_n C (zd tX12_laysWeekPremiums 36 rfl) rfl ?_
          refine z_iconst C (zd tX12_laysWeekPremiums 37 rfl) ?_
          obtain ⟨v16, r17, cv16, h⟩ := zcl_some h
          refine zc_V C ho hz hRm (qX12_premiumIs _ _ _ _ Rx2 (zR_c 1 rfl) p14.1 cv16) (lg_137 ho) (by decide) rfl (zgV zwd_1177 zwd_1179 zws_47 zwd_13 zwd_1180) rfl pX12_premiumIs rfl ⟨rfl, rfl⟩ ⟨Nat.le_of_ble_eq_true rfl, Nat.le_of_ble_eq_true rfl⟩ [zi x1, zr 137] rfl (Nat.le_of_ble_eq_true rfl) (zd tX12_laysWeekPremiums 38 rfl) [zi r17, zi x1, zr 137] rfl (fun p18 => ?_)
          refine z_aload_n C (zd tX12_laysWeekPremiums 39 rfl) rfl ?_
          refine z_iload_n C (zd tX12_laysWeekPremiums 40 rfl) rfl ?_
          refine z_iconst C (zd tX12_laysWeekPremiums 41 rfl) ?_
          obtain ⟨v19, r20, cv19, h⟩ := zcl_some h
          refine zc_V C ho hz hRm (qX12_premiumIs _ _ _ _ Rx2 (zR_c 2 rfl) p18.1 cv19) (lg_137 ho) (by decide) rfl (zgV zwd_1177 zwd_1179 zws_47 zwd_13 zwd_1180) rfl pX12_premiumIs rfl ⟨rfl, rfl⟩ ⟨Nat.le_of_ble_eq_true rfl, Nat.le_of_ble_eq_true rfl⟩ [zi r17, zi x1, zr 137] rfl (Nat.le_of_ble_eq_true rfl) (zd tX12_laysWeekPremiums 42 rfl) [zi r20, zi r17, zi x1, zr 137] rfl (fun p21 => ?_)
          refine z_iconst C (zd tX12_laysWeekPremiums 43 rfl) ?_
          refine z_icmp_ne (tgt := 75) C p21.2 (zR_c 1 rfl) (zd tX12_laysWeekPremiums 44 rfl) (by decide) h (fun h => ?_) (fun h => ?_)
          · refine z_iconst C (zd tX12_laysWeekPremiums 47 rfl) ?_
            refine z_sub (lo' := [some (zr 137), some (zi x1), some (zi x2)]) (zsub_s (zsub_s (zsub_s zsub_0))) ?_
            exact jX12_laysWeekPremiums_J76 C hN ho hz hRm _ _ v19 x1 x2 x1 r17 0 K1 trivial h p21.1 Rx1 Rx2 Rx1 p18.2 (zR_c 0 rfl) (fun w z2 hw hvw y2 => ih w x1 z2 _ hw hvw Rx1 y2 K1)
          · refine z_iconst C (zd tX12_laysWeekPremiums 45 rfl) ?_
            refine z_goto (tgt := 76) C (zd tX12_laysWeekPremiums 46 rfl) (by decide) ?_
            refine z_sub (lo' := [some (zr 137), some (zi x1), some (zi x2)]) (zsub_s (zsub_s (zsub_s zsub_0))) ?_
            exact jX12_laysWeekPremiums_J76 C hN ho hz hRm _ _ v19 x1 x2 x1 r17 1 K1 trivial h p21.1 Rx1 Rx2 Rx1 p18.2 (zR_c 1 rfl) (fun w z2 hw hvw y2 => ih w x1 z2 _ hw hvw Rx1 y2 K1)
set_option maxRecDepth 100000 in
set_option maxHeartbeats 4000000 in
theorem bX12_laysWeekPremiums_L2 {E : zE} (C : zC E 24 cX12_laysWeekPremiums RX12 vsX12_laysWeekPremiums) (hN : zEN E = 3) (ho : zEo E = 137) (hz : zEz E = False) (hRm : zER E = rmX12_laysWeekPremiums) : ∀ (fu : Nat) (v : zHp) (x1 : Int) (res : (zHp × (Int))), fX12_laysWeekPremiums_L2 fu v x1 = some res → zV 137 24 v → zR x1 → (∀ (w : zHp) (q : Int), res = (w, q) → zV 137 24 w → True → zX E 0 0 24 w 91 [none, none, none] []) → zX E 0 0 24 v 2 [some (zr 137), some (zi x1), none] [] := by
  intro fu
  induction fu with
  | zero =>
    intro v _ res h
    cases h
  | succ fu ih =>
    intro v x1 res h hv Rx1 K1
    rw [fX12_laysWeekPremiums_L2.eq_2] at h
    refine z_iload_n C (zd tX12_laysWeekPremiums 2 rfl) rfl ?_
    refine z_sipush C (by decide) (zd tX12_laysWeekPremiums 3 rfl) ?_
    refine z_icmp_ge (tgt := 91) C Rx1 (zR_c 680 rfl) (zd tX12_laysWeekPremiums 4 rfl) (by decide) h (fun h => ?_) (fun h => ?_)
    · refine z_sub (lo' := [none, none, none]) (zsub_n (zsub_n (zsub_n zsub_0))) ?_
      exact K1 _ _ (Option.some.inj h).symm hv trivial
    · refine z_aload_n C (zd tX12_laysWeekPremiums 5 rfl) rfl ?_
      refine gl_12_30 (t := 155) C (lg_137 ho) zic_12 (zm zwd_1020) (vl_12_30 ho hv (lg_137 ho)) (zd tX12_laysWeekPremiums 6 rfl) ?_
      refine z_iload_n C (zd tX12_laysWeekPremiums 7 rfl) rfl ?_
      refine z_iconst C (zd tX12_laysWeekPremiums 8 rfl) ?_
      obtain ⟨q1, h⟩ := zck_some h
      obtain ⟨v2, ev2, h⟩ := zb_some h
      have hv2 : zV 137 24 v2 := by rw [ev2]; exact hv.st (zR_c 0 rfl) (lg_155 ho).1 (Or.inr rfl)
      refine za_iast C (lg_155 ho) rfl (by decide) q1 ev2 (zd tX12_laysWeekPremiums 9 rfl) ?_
      refine z_aload_n C (zd tX12_laysWeekPremiums 10 rfl) rfl ?_
      refine gl_12_31 (t := 156) C (lg_137 ho) zic_12 (zm zwd_1021) (vl_12_31 ho hv2 (lg_137 ho)) (zd tX12_laysWeekPremiums 11 rfl) ?_
      refine z_iload_n C (zd tX12_laysWeekPremiums 12 rfl) rfl ?_
      refine z_iconst C (zd tX12_laysWeekPremiums 13 rfl) ?_
      obtain ⟨q3, h⟩ := zck_some h
      obtain ⟨v4, ev4, h⟩ := zb_some h
      have hv4 : zV 137 24 v4 := by rw [ev4]; exact hv2.st (zR_c (-1) rfl) (lg_156 ho).1 (Or.inr rfl)
      refine za_iast C (lg_156 ho) rfl (by decide) q3 ev4 (zd tX12_laysWeekPremiums 14 rfl) ?_
      refine z_iconst C (zd tX12_laysWeekPremiums 15 rfl) ?_
      refine z_istore_n C (zd tX12_laysWeekPremiums 16 rfl) (by rw [hN]; decide) ?_
      refine z_sub (lo' := [some (zr 137), some (zi x1), some (zi 0)]) (zsub_s (zsub_s (zsub_s zsub_0))) ?_
      obtain ⟨v26, w27, lv26, h⟩ := zl_some h
      refine bX12_laysWeekPremiums_L25 C hN ho hz hRm zFU v4 x1 0 _ lv26 hv4 Rx1 (zR_c 0 rfl) (fun w1 q1 e1 hv26 Rw27 => ?_)
      obtain ⟨rfl, rfl⟩ := zpp e1
      obtain ⟨t28, et28, Rt28, h⟩ := zn_some h
      refine z_iincE C (zd tX12_laysWeekPremiums 51 rfl) (by rw [hN]; decide) rfl et28 ?_
      refine z_goto (tgt := 2) C (zd tX12_laysWeekPremiums 52 rfl) (by decide) ?_
      refine z_sub (lo' := [some (zr 137), some (zi t28), none]) (zsub_s (zsub_s (zsub_n zsub_0))) ?_
      exact ih v26 t28 _ h hv26 Rt28 K1
set_option maxRecDepth 100000 in
set_option maxHeartbeats 4000000 in
theorem qX12_laysWeekPremiums (l : Launch) (D : va_G) (ids : Nat → ClassId) (b : Nat)  {v v' : zHp} {r' : Int} (hv : zV 137 24 v) (h : fX12_laysWeekPremiums v = some (v', r')) : zCT l yX12_laysWeekPremiums vsX12_laysWeekPremiums rmX12_laysWeekPremiums D ids b 137 False 24 [zr 137] v 24 (zV 137 24 v') none v' 0 0 := by
  refine zMet (own := RX12) (by decide +kernel) (show vsX12_laysWeekPremiums = _ from rfl) (Nat.le_of_ble_eq_true rfl) rfl ?_
  intro E hl hRm hD hids hb ho hz hN C hname ret
  subst hl hD hids hb
  unfold fX12_laysWeekPremiums at h
  refine z_iconst C (zd tX12_laysWeekPremiums 0 rfl) ?_
  refine z_istore_n C (zd tX12_laysWeekPremiums 1 rfl) (by rw [hN]; decide) ?_
  refine z_sub (lo' := [some (zr 137), some (zi 0), none]) (zsub_s (zsub_s (zsub_n zsub_0))) ?_
  obtain ⟨v29, w30, lv29, h⟩ := zl_some h
  refine bX12_laysWeekPremiums_L2 C hN ho hz hRm zFU v 0 _ lv29 hv (zR_c 0 rfl) (fun w1 q1 e1 hv29 Rw30 => ?_)
  obtain ⟨rfl, rfl⟩ := zpp e1
  obtain ⟨rfl, rfl⟩ := zpi h
  exact ret.2.1 _ _ hv29 rfl rfl (zd tX12_laysWeekPremiums 53 rfl)
noncomputable def vsX12_mostOf : List Cond := .code yX12_mostOf cX12_mostOf 7 (some .int) :: zbig
abbrev rmX12_mostOf : Room := { frames := 1, cells := 0, slots := 0, locals := 22 }
theorem pX12_mostOf : yX12_mostOf.cls = RX12 ∧ yX12_mostOf.cls ≠ "java/lang/invoke/MethodHandle" ∧ yX12_mostOf.cls ≠ "java/lang/invoke/VarHandle" ∧ (parseMethodDescriptor yX12_mostOf.desc).map (fun d => d.parameters.length) = some 3 := by decide +kernel
set_option maxRecDepth 100000 in
set_option maxHeartbeats 4000000 in
theorem jX12_mostOf_J55 {E : zE} (C : zC E 24 cX12_mostOf RX12 vsX12_mostOf) (hN : zEN E = 7) (ho : zEo E = 137) (hz : zEz E = False) (hRm : zER E = rmX12_mostOf) (rc : zHp → Int → Int → Int → Int → Option (zHp × (Int))) (res : (zHp × (Int))) (v : zHp) (x1 : Int) (x2 : Int) (x4 : Int) (x5 : Int) (s0 : Int) (K1 : ∀ (w : zHp) (q : Int), res = (w, q) → zV 137 24 w → zR q → zX E 0 0 24 w 94 [none, none, none, none, some (zi q), none, none] []) (hrc0 : True) (h : fX12_mostOf_J55 rc v x1 x2 x4 x5 s0 = some res) (hv : zV 137 24 v) (Rx1 : zR x1) (Rx2 : zR x2) (Rx4 : zR x4) (Rx5 : zR x5) (Rs0 : zR s0) (hrc : ∀ (v : zHp) (z4 : Int) (z5 : Int), rc v x1 x2 z4 z5 = some res → zV 137 24 v → zR z4 → zR z5 → zX E 0 0 24 v 6 [some (zr 137), some (zi x1), some (zi x2), none, some (zi z4), some (zi z5), none] []): zX E 0 0 24 v 55 [some (zr 137), some (zi x1), some (zi x2), none, some (zi x4), some (zi x5), none] [zi s0] := by
  unfold fX12_mostOf_J55 at h
  refine z_istore C (zd tX12_mostOf 32 rfl) (by rw [hN]; decide) ?_
  refine z_iload C (zd tX12_mostOf 33 rfl) rfl ?_
  refine z_if_eq (tgt := 84) C Rs0 (zd tX12_mostOf 34 rfl) (by decide) h (fun h => ?_) (fun h => ?_)
  · refine z_iload C (zd tX12_mostOf 46 rfl) rfl ?_
    refine z_istore C (zd tX12_mostOf 47 rfl) (by rw [hN]; decide) ?_
    obtain ⟨t5, et5, Rt5, h⟩ := zn_some h
    refine z_iincE C (zd tX12_mostOf 48 rfl) (by rw [hN]; decide) rfl et5 ?_
    refine z_goto (tgt := 6) C (zd tX12_mostOf 49 rfl) (by decide) ?_
    refine z_sub (lo' := [some (zr 137), some (zi x1), some (zi x2), none, some (zi x4), some (zi t5), none]) (zsub_s (zsub_s (zsub_s (zsub_n (zsub_s (zsub_s (zsub_n zsub_0))))))) ?_
    exact hrc v x4 t5 h hv Rx4 Rt5
  · refine z_aload_n C (zd tX12_mostOf 35 rfl) rfl ?_
    refine z_iload C (zd tX12_mostOf 36 rfl) rfl ?_
    refine z_iconst C (zd tX12_mostOf 37 rfl) ?_
    obtain ⟨v6, r7, cv6, h⟩ := zcl_some h
    refine zc_V C ho hz hRm (qX12_premiumIs _ _ _ _ Rx5 (zR_c 1 rfl) hv cv6) (lg_137 ho) (by decide) rfl (zgV zwd_1177 zwd_1179 zws_47 zwd_13 zwd_1180) rfl pX12_premiumIs rfl ⟨rfl, rfl⟩ ⟨Nat.le_of_ble_eq_true rfl, Nat.le_of_ble_eq_true rfl⟩ [] rfl (Nat.le_of_ble_eq_true rfl) (zd tX12_mostOf 38 rfl) [zi r7] rfl (fun p8 => ?_)
    refine z_iload C (zd tX12_mostOf 39 rfl) rfl ?_
    refine z_icmp_le (tgt := 84) C p8.2 Rx4 (zd tX12_mostOf 40 rfl) (by decide) h (fun h => ?_) (fun h => ?_)
    · refine z_iload C (zd tX12_mostOf 46 rfl) rfl ?_
      refine z_istore C (zd tX12_mostOf 47 rfl) (by rw [hN]; decide) ?_
      obtain ⟨t9, et9, Rt9, h⟩ := zn_some h
      refine z_iincE C (zd tX12_mostOf 48 rfl) (by rw [hN]; decide) rfl et9 ?_
      refine z_goto (tgt := 6) C (zd tX12_mostOf 49 rfl) (by decide) ?_
      refine z_sub (lo' := [some (zr 137), some (zi x1), some (zi x2), none, some (zi x4), some (zi t9), none]) (zsub_s (zsub_s (zsub_s (zsub_n (zsub_s (zsub_s (zsub_n zsub_0))))))) ?_
      exact hrc v6 x4 t9 h p8.1 Rx4 Rt9
    · refine z_aload_n C (zd tX12_mostOf 41 rfl) rfl ?_
      refine z_iload C (zd tX12_mostOf 42 rfl) rfl ?_
      refine z_iconst C (zd tX12_mostOf 43 rfl) ?_
      obtain ⟨v10, r11, cv10, h⟩ := zcl_some h
      refine zc_V C ho hz hRm (qX12_premiumIs _ _ _ _ Rx5 (zR_c 1 rfl) p8.1 cv10) (lg_137 ho) (by decide) rfl (zgV zwd_1177 zwd_1179 zws_47 zwd_13 zwd_1180) rfl pX12_premiumIs rfl ⟨rfl, rfl⟩ ⟨Nat.le_of_ble_eq_true rfl, Nat.le_of_ble_eq_true rfl⟩ [] rfl (Nat.le_of_ble_eq_true rfl) (zd tX12_mostOf 44 rfl) [zi r11] rfl (fun p12 => ?_)
      refine z_goto (tgt := 86) C (zd tX12_mostOf 45 rfl) (by decide) ?_
      refine z_istore C (zd tX12_mostOf 47 rfl) (by rw [hN]; decide) ?_
      obtain ⟨t13, et13, Rt13, h⟩ := zn_some h
      refine z_iincE C (zd tX12_mostOf 48 rfl) (by rw [hN]; decide) rfl et13 ?_
      refine z_goto (tgt := 6) C (zd tX12_mostOf 49 rfl) (by decide) ?_
      refine z_sub (lo' := [some (zr 137), some (zi x1), some (zi x2), none, some (zi r11), some (zi t13), none]) (zsub_s (zsub_s (zsub_s (zsub_n (zsub_s (zsub_s (zsub_n zsub_0))))))) ?_
      exact hrc v10 r11 t13 h p12.1 p12.2 Rt13
set_option maxRecDepth 100000 in
set_option maxHeartbeats 4000000 in
theorem jX12_mostOf_J54 {E : zE} (C : zC E 24 cX12_mostOf RX12 vsX12_mostOf) (hN : zEN E = 7) (ho : zEo E = 137) (hz : zEz E = False) (hRm : zER E = rmX12_mostOf) (rc : zHp → Int → Int → Int → Int → Option (zHp × (Int))) (res : (zHp × (Int))) (v : zHp) (x1 : Int) (x2 : Int) (x4 : Int) (x5 : Int) (K1 : ∀ (w : zHp) (q : Int), res = (w, q) → zV 137 24 w → zR q → zX E 0 0 24 w 94 [none, none, none, none, some (zi q), none, none] []) (hrc0 : True) (h : fX12_mostOf_J54 rc v x1 x2 x4 x5 = some res) (hv : zV 137 24 v) (Rx1 : zR x1) (Rx2 : zR x2) (Rx4 : zR x4) (Rx5 : zR x5) (hrc : ∀ (v : zHp) (z4 : Int) (z5 : Int), rc v x1 x2 z4 z5 = some res → zV 137 24 v → zR z4 → zR z5 → zX E 0 0 24 v 6 [some (zr 137), some (zi x1), some (zi x2), none, some (zi z4), some (zi z5), none] []): zX E 0 0 24 v 54 [some (zr 137), some (zi x1), some (zi x2), none, some (zi x4), some (zi x5), none] [] := by
  unfold fX12_mostOf_J54 at h
  refine z_iconst C (zd tX12_mostOf 31 rfl) ?_
  refine z_sub (lo' := [some (zr 137), some (zi x1), some (zi x2), none, some (zi x4), some (zi x5), none]) (zsub_s (zsub_s (zsub_s (zsub_n (zsub_s (zsub_s (zsub_n zsub_0))))))) ?_
  exact jX12_mostOf_J55 C hN ho hz hRm _ _ v x1 x2 x4 x5 0 K1 trivial h hv Rx1 Rx2 Rx4 Rx5 (zR_c 0 rfl) hrc
set_option maxRecDepth 100000 in
set_option maxHeartbeats 4000000 in
theorem jX12_mostOf_J46 {E : zE} (C : zC E 24 cX12_mostOf RX12 vsX12_mostOf) (hN : zEN E = 7) (ho : zEo E = 137) (hz : zEz E = False) (hRm : zER E = rmX12_mostOf) (rc : zHp → Int → Int → Int → Int → Option (zHp × (Int))) (res : (zHp × (Int))) (v : zHp) (x1 : Int) (x2 : Int) (x4 : Int) (x5 : Int) (s0 : Int) (K1 : ∀ (w : zHp) (q : Int), res = (w, q) → zV 137 24 w → zR q → zX E 0 0 24 w 94 [none, none, none, none, some (zi q), none, none] []) (hrc0 : True) (h : fX12_mostOf_J46 rc v x1 x2 x4 x5 s0 = some res) (hv : zV 137 24 v) (Rx1 : zR x1) (Rx2 : zR x2) (Rx4 : zR x4) (Rx5 : zR x5) (Rs0 : zR s0) (hrc : ∀ (v : zHp) (z4 : Int) (z5 : Int), rc v x1 x2 z4 z5 = some res → zV 137 24 v → zR z4 → zR z5 → zX E 0 0 24 v 6 [some (zr 137), some (zi x1), some (zi x2), none, some (zi z4), some (zi z5), none] []): zX E 0 0 24 v 46 [some (zr 137), some (zi x1), some (zi x2), none, some (zi x4), some (zi x5), none] [zi s0] := by
  unfold fX12_mostOf_J46 at h
  refine z_iload_n C (zd tX12_mostOf 27 rfl) rfl ?_
  refine z_icmp_ne (tgt := 54) C Rs0 Rx2 (zd tX12_mostOf 28 rfl) (by decide) h (fun h => ?_) (fun h => ?_)
  · refine z_sub (lo' := [some (zr 137), some (zi x1), some (zi x2), none, some (zi x4), some (zi x5), none]) (zsub_s (zsub_s (zsub_s (zsub_n (zsub_s (zsub_s (zsub_n zsub_0))))))) ?_
    exact jX12_mostOf_J54 C hN ho hz hRm _ _ v x1 x2 x4 x5 K1 trivial h hv Rx1 Rx2 Rx4 Rx5 hrc
  · refine z_iconst C (zd tX12_mostOf 29 rfl) ?_
    refine z_goto (tgt := 55) C (zd tX12_mostOf 30 rfl) (by decide) ?_
    refine z_sub (lo' := [some (zr 137), some (zi x1), some (zi x2), none, some (zi x4), some (zi x5), none]) (zsub_s (zsub_s (zsub_s (zsub_n (zsub_s (zsub_s (zsub_n zsub_0))))))) ?_
    exact jX12_mostOf_J55 C hN ho hz hRm _ _ v x1 x2 x4 x5 1 K1 trivial h hv Rx1 Rx2 Rx4 Rx5 (zR_c 1 rfl) hrc
set_option maxRecDepth 100000 in
set_option maxHeartbeats 4000000 in
theorem bX12_mostOf_L6 {E : zE} (C : zC E 24 cX12_mostOf RX12 vsX12_mostOf) (hN : zEN E = 7) (ho : zEo E = 137) (hz : zEz E = False) (hRm : zER E = rmX12_mostOf) : ∀ (fu : Nat) (v : zHp) (x1 : Int) (x2 : Int) (x4 : Int) (x5 : Int) (res : (zHp × (Int))), fX12_mostOf_L6 fu v x1 x2 x4 x5 = some res → zV 137 24 v → zR x1 → zR x2 → zR x4 → zR x5 → (∀ (w : zHp) (q : Int), res = (w, q) → zV 137 24 w → zR q → zX E 0 0 24 w 94 [none, none, none, none, some (zi q), none, none] []) → zX E 0 0 24 v 6 [some (zr 137), some (zi x1), some (zi x2), none, some (zi x4), some (zi x5), none] [] := by
  intro fu
  induction fu with
  | zero =>
    intro v _ _ _ _ res h
    cases h
  | succ fu ih =>
    intro v x1 x2 x4 x5 res h hv Rx1 Rx2 Rx4 Rx5 K1
    rw [fX12_mostOf_L6.eq_2] at h
    refine z_iload C (zd tX12_mostOf 4 rfl) rfl ?_
    refine z_aload_n C (zd tX12_mostOf 5 rfl) rfl ?_
    obtain ⟨v1, r2, cv1, h⟩ := zcl_some h
    refine zc_V C ho hz hRm (qX12_premiums _ _ _ _ hv cv1) (lg_137 ho) (by decide) rfl (zgV zwd_1173 zwd_1175 zws_46 zwd_13 zwd_1176) rfl pX12_premiums rfl ⟨rfl, rfl⟩ ⟨Nat.le_of_ble_eq_true rfl, Nat.le_of_ble_eq_true rfl⟩ [zi x5] rfl (Nat.le_of_ble_eq_true rfl) (zd tX12_mostOf 6 rfl) [zi r2, zi x5] rfl (fun p3 => ?_)
    refine z_icmp_ge (tgt := 94) C Rx5 p3.2 (zd tX12_mostOf 7 rfl) (by decide) h (fun h => ?_) (fun h => ?_)
    · refine z_sub (lo' := [none, none, none, none, some (zi x4), none, none]) (zsub_n (zsub_n (zsub_n (zsub_n (zsub_s (zsub_n (zsub_n zsub_0))))))) ?_
      exact K1 _ _ (Option.some.inj h).symm p3.1 Rx4
    · refine z_aload_n C (zd tX12_mostOf 8 rfl) rfl ?_
      refine gl_12_25 (t := 150) C (lg_137 ho) zic_12 (zm zwd_1015) (vl_12_25 ho p3.1 (lg_137 ho)) (zd tX12_mostOf 9 rfl) ?_
      refine z_iload_n C (zd tX12_mostOf 10 rfl) rfl ?_
      obtain ⟨q4, h⟩ := zck_some h
      refine za_iald C (lg_150 ho) rfl (by decide) q4 (zd tX12_mostOf 11 rfl) ?_
      refine z_iload C (zd tX12_mostOf 12 rfl) rfl ?_
      refine z_ishr C (zd tX12_mostOf 13 rfl) ?_
      refine z_iconst C (zd tX12_mostOf 14 rfl) ?_
      refine z_iand C (zd tX12_mostOf 15 rfl) ?_
      refine z_iconst C (zd tX12_mostOf 16 rfl) ?_
      refine z_icmp_ne (tgt := 54) C (zR_and _ _) (zR_c 1 rfl) (zd tX12_mostOf 17 rfl) (by decide) h (fun h => ?_) (fun h => ?_)
      · refine z_sub (lo' := [some (zr 137), some (zi x1), some (zi x2), none, some (zi x4), some (zi x5), none]) (zsub_s (zsub_s (zsub_s (zsub_n (zsub_s (zsub_s (zsub_n zsub_0))))))) ?_
        exact jX12_mostOf_J54 C hN ho hz hRm _ _ v1 x1 x2 x4 x5 K1 trivial h p3.1 Rx1 Rx2 Rx4 Rx5 (fun w z4 z5 hw hvw y4 y5 => ih w x1 x2 z4 z5 _ hw hvw Rx1 Rx2 y4 y5 K1)
      · refine z_aload_n C (zd tX12_mostOf 18 rfl) rfl ?_
        refine z_iload C (zd tX12_mostOf 19 rfl) rfl ?_
        refine z_iconst C (zd tX12_mostOf 20 rfl) ?_
        obtain ⟨v14, r15, cv14, h⟩ := zcl_some h
        refine zc_V C ho hz hRm (qX12_premiumIs _ _ _ _ Rx5 (zR_c 2 rfl) p3.1 cv14) (lg_137 ho) (by decide) rfl (zgV zwd_1177 zwd_1179 zws_47 zwd_13 zwd_1180) rfl pX12_premiumIs rfl ⟨rfl, rfl⟩ ⟨Nat.le_of_ble_eq_true rfl, Nat.le_of_ble_eq_true rfl⟩ [] rfl (Nat.le_of_ble_eq_true rfl) (zd tX12_mostOf 21 rfl) [zi r15] rfl (fun p16 => ?_)
        refine z_iconst C (zd tX12_mostOf 22 rfl) ?_
        refine z_icmp_ne (tgt := 45) C p16.2 (zR_c 1 rfl) (zd tX12_mostOf 23 rfl) (by decide) h (fun h => ?_) (fun h => ?_)
        · refine z_iconst C (zd tX12_mostOf 26 rfl) ?_
          refine z_sub (lo' := [some (zr 137), some (zi x1), some (zi x2), none, some (zi x4), some (zi x5), none]) (zsub_s (zsub_s (zsub_s (zsub_n (zsub_s (zsub_s (zsub_n zsub_0))))))) ?_
          exact jX12_mostOf_J46 C hN ho hz hRm _ _ v14 x1 x2 x4 x5 0 K1 trivial h p16.1 Rx1 Rx2 Rx4 Rx5 (zR_c 0 rfl) (fun w z4 z5 hw hvw y4 y5 => ih w x1 x2 z4 z5 _ hw hvw Rx1 Rx2 y4 y5 K1)
        · refine z_iconst C (zd tX12_mostOf 24 rfl) ?_
          refine z_goto (tgt := 46) C (zd tX12_mostOf 25 rfl) (by decide) ?_
          refine z_sub (lo' := [some (zr 137), some (zi x1), some (zi x2), none, some (zi x4), some (zi x5), none]) (zsub_s (zsub_s (zsub_s (zsub_n (zsub_s (zsub_s (zsub_n zsub_0))))))) ?_
          exact jX12_mostOf_J46 C hN ho hz hRm _ _ v14 x1 x2 x4 x5 1 K1 trivial h p16.1 Rx1 Rx2 Rx4 Rx5 (zR_c 1 rfl) (fun w z4 z5 hw hvw y4 y5 => ih w x1 x2 z4 z5 _ hw hvw Rx1 Rx2 y4 y5 K1)
set_option maxRecDepth 100000 in
set_option maxHeartbeats 4000000 in
theorem qX12_mostOf (l : Launch) (D : va_G) (ids : Nat → ClassId) (b : Nat) {x1 : Int} (Rx1 : zR x1) {x2 : Int} (Rx2 : zR x2) {x3 : Int} (Rx3 : zR x3) {v v' : zHp} {r' : Int} (hv : zV 137 24 v) (h : fX12_mostOf v x1 x2 x3 = some (v', r')) : zCT l yX12_mostOf vsX12_mostOf rmX12_mostOf D ids b 137 False 24 [zr 137, zi x1, zi x2, zi x3] v 24 (zV 137 24 v' ∧ zR r') (some (zi r')) v' 0 0 := by
  refine zMet (own := RX12) (by decide +kernel) (show vsX12_mostOf = _ from rfl) (Nat.le_of_ble_eq_true rfl) rfl ?_
  intro E hl hRm hD hids hb ho hz hN C hname ret
  subst hl hD hids hb
  unfold fX12_mostOf at h
  refine z_iload_n C (zd tX12_mostOf 0 rfl) rfl ?_
  refine z_istore C (zd tX12_mostOf 1 rfl) (by rw [hN]; decide) ?_
  refine z_iconst C (zd tX12_mostOf 2 rfl) ?_
  refine z_istore C (zd tX12_mostOf 3 rfl) (by rw [hN]; decide) ?_
  refine z_sub (lo' := [some (zr 137), some (zi x1), some (zi x2), none, some (zi x3), some (zi 0), none]) (zsub_s (zsub_s (zsub_s (zsub_n (zsub_s (zsub_s (zsub_n zsub_0))))))) ?_
  obtain ⟨v17, w18, lv17, h⟩ := zl_some h
  refine bX12_mostOf_L6 C hN ho hz hRm zFU v x1 x2 x3 0 _ lv17 hv Rx1 Rx2 Rx3 (zR_c 0 rfl) (fun w1 q1 e1 hv17 Rw18 => ?_)
  obtain ⟨rfl, rfl⟩ := zpp e1
  refine z_iload C (zd tX12_mostOf 50 rfl) rfl ?_
  obtain ⟨rfl, rfl⟩ := zpi h
  exact ret.1 _ _ _ _ ⟨hv17, Rw18⟩ rfl rfl rfl (zd tX12_mostOf 51 rfl)
noncomputable def vsX12_laysBest : List Cond := .code yX12_laysBest cX12_laysBest 9 none :: zbig
abbrev rmX12_laysBest : Room := { frames := 2, cells := 0, slots := 0, locals := 48 }
theorem pX12_laysBest : yX12_laysBest.cls = RX12 ∧ yX12_laysBest.cls ≠ "java/lang/invoke/MethodHandle" ∧ yX12_laysBest.cls ≠ "java/lang/invoke/VarHandle" ∧ (parseMethodDescriptor yX12_laysBest.desc).map (fun d => d.parameters.length) = some 0 := by decide +kernel
set_option maxRecDepth 100000 in
set_option maxHeartbeats 4000000 in
theorem bX12_laysBest_L6 {E : zE} (C : zC E 24 cX12_laysBest RX12 vsX12_laysBest) (hN : zEN E = 9) (ho : zEo E = 137) (hz : zEz E = False) (hRm : zER E = rmX12_laysBest) : ∀ (fu : Nat) (v : zHp) (x1 : Int) (res : (zHp × (Int))), fX12_laysBest_L6 fu v x1 = some res → zV 137 24 v → zR x1 → (∀ (w : zHp) (q : Int), res = (w, q) → zV 137 24 w → True → zX E 0 0 24 w 36 [some (zr 137), none, none, none, none, none, none, none, none] []) → zX E 0 0 24 v 6 [some (zr 137), some (zi x1), none, none, none, none, none, none, none] [] := by
  intro fu
  induction fu with
  | zero =>
    intro v _ res h
    cases h
  | succ fu ih =>
    intro v x1 res h hv Rx1 K1
    rw [fX12_laysBest_L6.eq_2] at h
    refine z_iload_n C (zd tX12_laysBest 4 rfl) rfl ?_
    refine z_aload_n C (zd tX12_laysBest 5 rfl) rfl ?_
    refine gf_12_23 C (lg_137 ho) zic_12 (zm zwd_1013) (zd tX12_laysBest 6 rfl) ?_
    refine z_icmp_gt (tgt := 36) C Rx1 (hv.1 _ _) (zd tX12_laysBest 7 rfl) (by decide) h (fun h => ?_) (fun h => ?_)
    · refine z_sub (lo' := [some (zr 137), none, none, none, none, none, none, none, none]) (zsub_s (zsub_n (zsub_n (zsub_n (zsub_n (zsub_n (zsub_n (zsub_n (zsub_n zsub_0))))))))) ?_
      exact K1 _ _ (Option.some.inj h).symm hv trivial
    · refine z_aload_n C (zd tX12_laysBest 8 rfl) rfl ?_
      refine gl_12_29 (t := 154) C (lg_137 ho) zic_12 (zm zwd_1019) (vl_12_29 ho hv (lg_137 ho)) (zd tX12_laysBest 9 rfl) ?_
      refine z_sipush C (by decide) (zd tX12_laysBest 10 rfl) ?_
      refine z_aload_n C (zd tX12_laysBest 11 rfl) rfl ?_
      refine gf_12_23 C (lg_137 ho) zic_12 (zm zwd_1013) (zd tX12_laysBest 12 rfl) ?_
      refine z_imul C (zd tX12_laysBest 13 rfl) ?_
      refine z_iload_n C (zd tX12_laysBest 14 rfl) rfl ?_
      refine z_iadd C (zd tX12_laysBest 15 rfl) ?_
      refine z_iconst C (zd tX12_laysBest 16 rfl) ?_
      obtain ⟨q4, h⟩ := zck_some h
      obtain ⟨v5, ev5, h⟩ := zb_some h
      have hv5 : zV 137 24 v5 := by rw [ev5]; exact hv.st (zR_c 0 rfl) (lg_154 ho).1 (Or.inr rfl)
      refine za_iast C (lg_154 ho) rfl (by decide) q4 ev5 (zd tX12_laysBest 17 rfl) ?_
      obtain ⟨t6, et6, Rt6, h⟩ := zn_some h
      refine z_iincE C (zd tX12_laysBest 18 rfl) (by rw [hN]; decide) rfl et6 ?_
      refine z_goto (tgt := 6) C (zd tX12_laysBest 19 rfl) (by decide) ?_
      refine z_sub (lo' := [some (zr 137), some (zi t6), none, none, none, none, none, none, none]) (zsub_s (zsub_s (zsub_n (zsub_n (zsub_n (zsub_n (zsub_n (zsub_n (zsub_n zsub_0))))))))) ?_
      exact ih v5 t6 _ h hv5 Rt6 K1
set_option maxRecDepth 100000 in
set_option maxHeartbeats 4000000 in
theorem jX12_laysBest_J171 {E : zE} (C : zC E 24 cX12_laysBest RX12 vsX12_laysBest) (hN : zEN E = 9) (ho : zEo E = 137) (hz : zEz E = False) (hRm : zER E = rmX12_laysBest) (rc : zHp → Int → Int → Int → Int → Int → Option (zHp × (Int))) (res : (zHp × (Int))) (v : zHp) (x1 : Int) (x2 : Int) (x3 : Int) (x4 : Int) (x5 : Int) (x6 : Int) (s0 : Int) (K1 : ∀ (w : zHp) (q : Int), res = (w, q) → zV 137 24 w → True → zX E 0 0 24 w 206 [some (zr 137), some (zi x1), none, none, none, none, none, none, none] []) (hrc0 : True) (h : fX12_laysBest_J171 rc v x1 x2 x3 x4 x5 x6 s0 = some res) (hv : zV 137 24 v) (Rx1 : zR x1) (Rx2 : zR x2) (Rx3 : zR x3) (Rx4 : zR x4) (Rx5 : zR x5) (Rx6 : zR x6) (Rs0 : zR s0) (hrc : ∀ (v : zHp) (z5 : Int), rc v x1 x2 x3 x4 z5 = some res → zV 137 24 v → zR z5 → zX E 0 0 24 v 75 [some (zr 137), some (zi x1), some (zi x2), some (zi x3), some (zi x4), some (zi z5), none, none, none] []): zX E 0 0 24 v 171 [some (zr 137), some (zi x1), some (zi x2), some (zi x3), some (zi x4), some (zi x5), some (zi x6), none, none] [zi s0] := by
  unfold fX12_laysBest_J171 at h
  refine z_istore C (zd tX12_laysBest 102 rfl) (by rw [hN]; decide) ?_
  refine z_aload_n C (zd tX12_laysBest 103 rfl) rfl ?_
  refine gl_12_29 (t := 154) C (lg_137 ho) zic_12 (zm zwd_1019) (vl_12_29 ho hv (lg_137 ho)) (zd tX12_laysBest 104 rfl) ?_
  refine z_sipush C (by decide) (zd tX12_laysBest 105 rfl) ?_
  refine z_iload_n C (zd tX12_laysBest 106 rfl) rfl ?_
  refine z_imul C (zd tX12_laysBest 107 rfl) ?_
  refine z_iload C (zd tX12_laysBest 108 rfl) rfl ?_
  refine z_iadd C (zd tX12_laysBest 109 rfl) ?_
  refine z_iload C (zd tX12_laysBest 110 rfl) rfl ?_
  refine z_iload C (zd tX12_laysBest 111 rfl) rfl ?_
  refine z_icmp_le (tgt := 197) C Rs0 Rx6 (zd tX12_laysBest 112 rfl) (by decide) h (fun h => ?_) (fun h => ?_)
  · refine z_iload C (zd tX12_laysBest 115 rfl) rfl ?_
    obtain ⟨q24, h⟩ := zck_some h
    obtain ⟨v25, ev25, h⟩ := zb_some h
    have hv25 : zV 137 24 v25 := by rw [ev25]; exact hv.st Rx6 (lg_154 ho).1 (Or.inr rfl)
    refine za_iast C (lg_154 ho) rfl (by decide) q24 ev25 (zd tX12_laysBest 116 rfl) ?_
    obtain ⟨t26, et26, Rt26, h⟩ := zn_some h
    refine z_iincE C (zd tX12_laysBest 117 rfl) (by rw [hN]; decide) rfl et26 ?_
    refine z_goto (tgt := 75) C (zd tX12_laysBest 118 rfl) (by decide) ?_
    refine z_sub (lo' := [some (zr 137), some (zi x1), some (zi x2), some (zi x3), some (zi x4), some (zi t26), none, none, none]) (zsub_s (zsub_s (zsub_s (zsub_s (zsub_s (zsub_s (zsub_n (zsub_n (zsub_n zsub_0))))))))) ?_
    exact hrc v25 t26 h hv25 Rt26
  · refine z_iload C (zd tX12_laysBest 113 rfl) rfl ?_
    refine z_goto (tgt := 199) C (zd tX12_laysBest 114 rfl) (by decide) ?_
    obtain ⟨q27, h⟩ := zck_some h
    obtain ⟨v28, ev28, h⟩ := zb_some h
    have hv28 : zV 137 24 v28 := by rw [ev28]; exact hv.st Rs0 (lg_154 ho).1 (Or.inr rfl)
    refine za_iast C (lg_154 ho) rfl (by decide) q27 ev28 (zd tX12_laysBest 116 rfl) ?_
    obtain ⟨t29, et29, Rt29, h⟩ := zn_some h
    refine z_iincE C (zd tX12_laysBest 117 rfl) (by rw [hN]; decide) rfl et29 ?_
    refine z_goto (tgt := 75) C (zd tX12_laysBest 118 rfl) (by decide) ?_
    refine z_sub (lo' := [some (zr 137), some (zi x1), some (zi x2), some (zi x3), some (zi x4), some (zi t29), none, none, none]) (zsub_s (zsub_s (zsub_s (zsub_s (zsub_s (zsub_s (zsub_n (zsub_n (zsub_n zsub_0))))))))) ?_
    exact hrc v28 t29 h hv28 Rt29
set_option maxRecDepth 100000 in
set_option maxHeartbeats 4000000 in
theorem jX12_laysBest_J143 {E : zE} (C : zC E 24 cX12_laysBest RX12 vsX12_laysBest) (hN : zEN E = 9) (ho : zEo E = 137) (hz : zEz E = False) (hRm : zER E = rmX12_laysBest) (rc : zHp → Int → Int → Int → Int → Int → Option (zHp × (Int))) (res : (zHp × (Int))) (v : zHp) (x1 : Int) (x2 : Int) (x3 : Int) (x4 : Int) (x5 : Int) (x6 : Int) (s0 : Int) (K1 : ∀ (w : zHp) (q : Int), res = (w, q) → zV 137 24 w → True → zX E 0 0 24 w 206 [some (zr 137), some (zi x1), none, none, none, none, none, none, none] []) (hrc0 : True) (h : fX12_laysBest_J143 rc v x1 x2 x3 x4 x5 x6 s0 = some res) (hv : zV 137 24 v) (Rx1 : zR x1) (Rx2 : zR x2) (Rx3 : zR x3) (Rx4 : zR x4) (Rx5 : zR x5) (Rx6 : zR x6) (Rs0 : zR s0) (hrc : ∀ (v : zHp) (z5 : Int), rc v x1 x2 x3 x4 z5 = some res → zV 137 24 v → zR z5 → zX E 0 0 24 v 75 [some (zr 137), some (zi x1), some (zi x2), some (zi x3), some (zi x4), some (zi z5), none, none, none] []): zX E 0 0 24 v 143 [some (zr 137), some (zi x1), some (zi x2), some (zi x3), some (zi x4), some (zi x5), some (zi x6), none, none] [zi s0] := by
  unfold fX12_laysBest_J143 at h
  refine z_istore C (zd tX12_laysBest 86 rfl) (by rw [hN]; decide) ?_
  refine z_iload C (zd tX12_laysBest 87 rfl) rfl ?_
  refine z_iconst C (zd tX12_laysBest 88 rfl) ?_
  refine z_icmp_ne (tgt := 155) C Rs0 (zR_c (-1) rfl) (zd tX12_laysBest 89 rfl) (by decide) h (fun h => ?_) (fun h => ?_)
  · refine z_bipush C (by decide) (zd tX12_laysBest 92 rfl) ?_
    refine z_aload_n C (zd tX12_laysBest 93 rfl) rfl ?_
    refine gl_12_29 (t := 154) C (lg_137 ho) zic_12 (zm zwd_1019) (vl_12_29 ho hv (lg_137 ho)) (zd tX12_laysBest 94 rfl) ?_
    refine z_iload C (zd tX12_laysBest 95 rfl) rfl ?_
    refine z_iload C (zd tX12_laysBest 96 rfl) rfl ?_
    refine z_iadd C (zd tX12_laysBest 97 rfl) ?_
    obtain ⟨q22, h⟩ := zck_some h
    refine za_iald C (lg_154 ho) rfl (by decide) q22 (zd tX12_laysBest 98 rfl) ?_
    refine z_iadd C (zd tX12_laysBest 99 rfl) ?_
    refine z_iload C (zd tX12_laysBest 100 rfl) rfl ?_
    refine z_iadd C (zd tX12_laysBest 101 rfl) ?_
    obtain ⟨t23, et23, Rt23, h⟩ := zn_some h
    refine z_nk 0 (congrArg zI et23.symm) rfl ?_
    refine z_sub (lo' := [some (zr 137), some (zi x1), some (zi x2), some (zi x3), some (zi x4), some (zi x5), some (zi x6), none, none]) (zsub_s (zsub_s (zsub_s (zsub_s (zsub_s (zsub_s (zsub_s (zsub_n (zsub_n zsub_0))))))))) ?_
    exact jX12_laysBest_J171 C hN ho hz hRm _ _ v x1 x2 x3 x4 x5 x6 t23 K1 trivial h hv Rx1 Rx2 Rx3 Rx4 Rx5 Rx6 Rt23 hrc
  · refine z_iconst C (zd tX12_laysBest 90 rfl) ?_
    refine z_goto (tgt := 171) C (zd tX12_laysBest 91 rfl) (by decide) ?_
    refine z_sub (lo' := [some (zr 137), some (zi x1), some (zi x2), some (zi x3), some (zi x4), some (zi x5), some (zi x6), none, none]) (zsub_s (zsub_s (zsub_s (zsub_s (zsub_s (zsub_s (zsub_s (zsub_n (zsub_n zsub_0))))))))) ?_
    exact jX12_laysBest_J171 C hN ho hz hRm _ _ v x1 x2 x3 x4 x5 x6 0 K1 trivial h hv Rx1 Rx2 Rx3 Rx4 Rx5 Rx6 (zR_c 0 rfl) hrc
set_option maxRecDepth 100000 in
set_option maxHeartbeats 4000000 in
theorem jX12_laysBest_J118 {E : zE} (C : zC E 24 cX12_laysBest RX12 vsX12_laysBest) (hN : zEN E = 9) (ho : zEo E = 137) (hz : zEz E = False) (hRm : zER E = rmX12_laysBest) (rc : zHp → Int → Int → Int → Int → Int → Option (zHp × (Int))) (res : (zHp × (Int))) (v : zHp) (x1 : Int) (x2 : Int) (x3 : Int) (x4 : Int) (x5 : Int) (s0 : Int) (s1 : Int) (K1 : ∀ (w : zHp) (q : Int), res = (w, q) → zV 137 24 w → True → zX E 0 0 24 w 206 [some (zr 137), some (zi x1), none, none, none, none, none, none, none] []) (hrc0 : True) (h : fX12_laysBest_J118 rc v x1 x2 x3 x4 x5 s0 s1 = some res) (hv : zV 137 24 v) (Rx1 : zR x1) (Rx2 : zR x2) (Rx3 : zR x3) (Rx4 : zR x4) (Rx5 : zR x5) (Rs0 : zR s0) (Rs1 : zR s1) (hrc : ∀ (v : zHp) (z5 : Int), rc v x1 x2 x3 x4 z5 = some res → zV 137 24 v → zR z5 → zX E 0 0 24 v 75 [some (zr 137), some (zi x1), some (zi x2), some (zi x3), some (zi x4), some (zi z5), none, none, none] []): zX E 0 0 24 v 118 [some (zr 137), some (zi x1), some (zi x2), some (zi x3), some (zi x4), some (zi x5), none, none, none] [zi s1, zi s0] := by
  unfold fX12_laysBest_J118 at h
  refine z_iadd C (zd tX12_laysBest 72 rfl) ?_
  obtain ⟨t20, et20, Rt20, h⟩ := zn_some h
  refine z_n0 (congrArg zI et20.symm) ?_
  refine z_istore C (zd tX12_laysBest 73 rfl) (by rw [hN]; decide) ?_
  refine z_aload_n C (zd tX12_laysBest 74 rfl) rfl ?_
  refine gl_12_31 (t := 156) C (lg_137 ho) zic_12 (zm zwd_1021) (vl_12_31 ho hv (lg_137 ho)) (zd tX12_laysBest 75 rfl) ?_
  refine z_iload C (zd tX12_laysBest 76 rfl) rfl ?_
  obtain ⟨q21, h⟩ := zck_some h
  refine za_iald C (lg_156 ho) rfl (by decide) q21 (zd tX12_laysBest 77 rfl) ?_
  refine z_iload_n C (zd tX12_laysBest 78 rfl) rfl ?_
  refine z_icmp_le (tgt := 142) C (hv.1 _ _) Rx3 (zd tX12_laysBest 79 rfl) (by decide) h (fun h => ?_) (fun h => ?_)
  · refine z_iload_n C (zd tX12_laysBest 85 rfl) rfl ?_
    refine z_sub (lo' := [some (zr 137), some (zi x1), some (zi x2), some (zi x3), some (zi x4), some (zi x5), some (zi t20), none, none]) (zsub_s (zsub_s (zsub_s (zsub_s (zsub_s (zsub_s (zsub_s (zsub_n (zsub_n zsub_0))))))))) ?_
    exact jX12_laysBest_J143 C hN ho hz hRm _ _ v x1 x2 x3 x4 x5 t20 x3 K1 trivial h hv Rx1 Rx2 Rx3 Rx4 Rx5 Rt20 Rx3 hrc
  · refine z_aload_n C (zd tX12_laysBest 80 rfl) rfl ?_
    refine gl_12_31 (t := 156) C (lg_137 ho) zic_12 (zm zwd_1021) (vl_12_31 ho hv (lg_137 ho)) (zd tX12_laysBest 81 rfl) ?_
    refine z_iload C (zd tX12_laysBest 82 rfl) rfl ?_
    obtain ⟨q30, h⟩ := zck_some h
    refine za_iald C (lg_156 ho) rfl (by decide) q30 (zd tX12_laysBest 83 rfl) ?_
    refine z_goto (tgt := 143) C (zd tX12_laysBest 84 rfl) (by decide) ?_
    refine z_sub (lo' := [some (zr 137), some (zi x1), some (zi x2), some (zi x3), some (zi x4), some (zi x5), some (zi t20), none, none]) (zsub_s (zsub_s (zsub_s (zsub_s (zsub_s (zsub_s (zsub_s (zsub_n (zsub_n zsub_0))))))))) ?_
    exact jX12_laysBest_J143 C hN ho hz hRm _ _ v x1 x2 x3 x4 x5 t20 (v 156 x5) K1 trivial h hv Rx1 Rx2 Rx3 Rx4 Rx5 Rt20 (hv.1 _ _) hrc
set_option maxRecDepth 100000 in
set_option maxHeartbeats 4000000 in
theorem bX12_laysBest_L75 {E : zE} (C : zC E 24 cX12_laysBest RX12 vsX12_laysBest) (hN : zEN E = 9) (ho : zEo E = 137) (hz : zEz E = False) (hRm : zER E = rmX12_laysBest) : ∀ (fu : Nat) (v : zHp) (x1 : Int) (x2 : Int) (x3 : Int) (x4 : Int) (x5 : Int) (res : (zHp × (Int))), fX12_laysBest_L75 fu v x1 x2 x3 x4 x5 = some res → zV 137 24 v → zR x1 → zR x2 → zR x3 → zR x4 → zR x5 → (∀ (w : zHp) (q : Int), res = (w, q) → zV 137 24 w → True → zX E 0 0 24 w 206 [some (zr 137), some (zi x1), none, none, none, none, none, none, none] []) → zX E 0 0 24 v 75 [some (zr 137), some (zi x1), some (zi x2), some (zi x3), some (zi x4), some (zi x5), none, none, none] [] := by
  intro fu
  induction fu with
  | zero =>
    intro v _ _ _ _ _ res h
    cases h
  | succ fu ih =>
    intro v x1 x2 x3 x4 x5 res h hv Rx1 Rx2 Rx3 Rx4 Rx5 K1
    rw [fX12_laysBest_L75.eq_2] at h
    refine z_iload C (zd tX12_laysBest 47 rfl) rfl ?_
    refine z_iload_n C (zd tX12_laysBest 48 rfl) rfl ?_
    refine z_icmp_gt (tgt := 206) C Rx5 Rx1 (zd tX12_laysBest 49 rfl) (by decide) h (fun h => ?_) (fun h => ?_)
    · refine z_sub (lo' := [some (zr 137), some (zi x1), none, none, none, none, none, none, none]) (zsub_s (zsub_s (zsub_n (zsub_n (zsub_n (zsub_n (zsub_n (zsub_n (zsub_n zsub_0))))))))) ?_
      exact K1 _ _ (Option.some.inj h).symm hv trivial
    · refine z_bipush C (by decide) (zd tX12_laysBest 50 rfl) ?_
      refine z_aload_n C (zd tX12_laysBest 51 rfl) rfl ?_
      refine gl_12_29 (t := 154) C (lg_137 ho) zic_12 (zm zwd_1019) (vl_12_29 ho hv (lg_137 ho)) (zd tX12_laysBest 52 rfl) ?_
      refine z_iload C (zd tX12_laysBest 53 rfl) rfl ?_
      refine z_iload C (zd tX12_laysBest 54 rfl) rfl ?_
      refine z_iadd C (zd tX12_laysBest 55 rfl) ?_
      refine z_iconst C (zd tX12_laysBest 56 rfl) ?_
      refine z_iadd C (zd tX12_laysBest 57 rfl) ?_
      obtain ⟨q17, h⟩ := zck_some h
      refine za_iald C (lg_154 ho) rfl (by decide) q17 (zd tX12_laysBest 58 rfl) ?_
      refine z_iadd C (zd tX12_laysBest 59 rfl) ?_
      refine z_aload_n C (zd tX12_laysBest 60 rfl) rfl ?_
      refine gl_12_30 (t := 155) C (lg_137 ho) zic_12 (zm zwd_1020) (vl_12_30 ho hv (lg_137 ho)) (zd tX12_laysBest 61 rfl) ?_
      refine z_iload C (zd tX12_laysBest 62 rfl) rfl ?_
      obtain ⟨q18, h⟩ := zck_some h
      refine za_iald C (lg_155 ho) rfl (by decide) q18 (zd tX12_laysBest 63 rfl) ?_
      refine z_iload_n C (zd tX12_laysBest 64 rfl) rfl ?_
      refine z_icmp_le (tgt := 117) C (hv.1 _ _) Rx2 (zd tX12_laysBest 65 rfl) (by decide) h (fun h => ?_) (fun h => ?_)
      · refine z_iload_n C (zd tX12_laysBest 71 rfl) rfl ?_
        obtain ⟨t19, et19, Rt19, h⟩ := zn_some h
        refine z_nk 1 (congrArg zI et19.symm) rfl ?_
        refine z_sub (lo' := [some (zr 137), some (zi x1), some (zi x2), some (zi x3), some (zi x4), some (zi x5), none, none, none]) (zsub_s (zsub_s (zsub_s (zsub_s (zsub_s (zsub_s (zsub_n (zsub_n (zsub_n zsub_0))))))))) ?_
        exact jX12_laysBest_J118 C hN ho hz hRm _ _ v x1 x2 x3 x4 x5 t19 x2 K1 trivial h hv Rx1 Rx2 Rx3 Rx4 Rx5 Rt19 Rx2 (fun w z5 hw hvw y5 => ih w x1 x2 x3 x4 z5 _ hw hvw Rx1 Rx2 Rx3 Rx4 y5 K1)
      · refine z_aload_n C (zd tX12_laysBest 66 rfl) rfl ?_
        refine gl_12_30 (t := 155) C (lg_137 ho) zic_12 (zm zwd_1020) (vl_12_30 ho hv (lg_137 ho)) (zd tX12_laysBest 67 rfl) ?_
        refine z_iload C (zd tX12_laysBest 68 rfl) rfl ?_
        obtain ⟨q31, h⟩ := zck_some h
        refine za_iald C (lg_155 ho) rfl (by decide) q31 (zd tX12_laysBest 69 rfl) ?_
        refine z_goto (tgt := 118) C (zd tX12_laysBest 70 rfl) (by decide) ?_
        obtain ⟨t32, et32, Rt32, h⟩ := zn_some h
        refine z_nk 1 (congrArg zI et32.symm) rfl ?_
        refine z_sub (lo' := [some (zr 137), some (zi x1), some (zi x2), some (zi x3), some (zi x4), some (zi x5), none, none, none]) (zsub_s (zsub_s (zsub_s (zsub_s (zsub_s (zsub_s (zsub_n (zsub_n (zsub_n zsub_0))))))))) ?_
        exact jX12_laysBest_J118 C hN ho hz hRm _ _ v x1 x2 x3 x4 x5 t32 (v 155 x5) K1 trivial h hv Rx1 Rx2 Rx3 Rx4 Rx5 Rt32 (hv.1 _ _) (fun w z5 hw hvw y5 => ih w x1 x2 x3 x4 z5 _ hw hvw Rx1 Rx2 Rx3 Rx4 y5 K1)
set_option maxRecDepth 100000 in
set_option maxHeartbeats 4000000 in
theorem bX12_laysBest_L43 {E : zE} (C : zC E 24 cX12_laysBest RX12 vsX12_laysBest) (hN : zEN E = 9) (ho : zEo E = 137) (hz : zEz E = False) (hRm : zER E = rmX12_laysBest) : ∀ (fu : Nat) (v : zHp) (x1 : Int) (res : (zHp × (Int))), fX12_laysBest_L43 fu v x1 = some res → zV 137 24 v → zR x1 → (∀ (w : zHp) (q : Int), res = (w, q) → zV 137 24 w → True → zX E 0 0 24 w 212 [none, none, none, none, none, none, none, none, none] []) → zX E 0 0 24 v 43 [some (zr 137), some (zi x1), none, none, none, none, none, none, none] [] := by
  intro fu
  induction fu with
  | zero =>
    intro v _ res h
    cases h
  | succ fu ih =>
    intro v x1 res h hv Rx1 K1
    rw [fX12_laysBest_L43.eq_2] at h
    refine z_iload_n C (zd tX12_laysBest 25 rfl) rfl ?_
    refine z_if_lt (tgt := 212) C Rx1 (zd tX12_laysBest 26 rfl) (by decide) h (fun h => ?_) (fun h => ?_)
    · refine z_sub (lo' := [none, none, none, none, none, none, none, none, none]) (zsub_n (zsub_n (zsub_n (zsub_n (zsub_n (zsub_n (zsub_n (zsub_n (zsub_n zsub_0))))))))) ?_
      exact K1 _ _ (Option.some.inj h).symm hv trivial
    · refine z_aload_n C (zd tX12_laysBest 27 rfl) rfl ?_
      refine z_iload_n C (zd tX12_laysBest 28 rfl) rfl ?_
      refine z_iconst C (zd tX12_laysBest 29 rfl) ?_
      refine z_iconst C (zd tX12_laysBest 30 rfl) ?_
      obtain ⟨v10, r11, cv10, h⟩ := zcl_some h
      refine zc_V C ho hz hRm (qX12_mostOf _ _ _ _ Rx1 (zR_c 1 rfl) (zR_c 0 rfl) hv cv10) (lg_137 ho) (by decide) rfl (zgV zwd_1307 zwd_1309 zws_71 zwd_13 zwd_1310) rfl pX12_mostOf rfl ⟨rfl, rfl⟩ ⟨Nat.le_of_ble_eq_true rfl, Nat.le_of_ble_eq_true rfl⟩ [] rfl (Nat.le_of_ble_eq_true rfl) (zd tX12_laysBest 31 rfl) [zi r11] rfl (fun p12 => ?_)
      refine z_istore_n C (zd tX12_laysBest 32 rfl) (by rw [hN]; decide) ?_
      refine z_aload_n C (zd tX12_laysBest 33 rfl) rfl ?_
      refine z_iload_n C (zd tX12_laysBest 34 rfl) rfl ?_
      refine z_iconst C (zd tX12_laysBest 35 rfl) ?_
      refine z_iconst C (zd tX12_laysBest 36 rfl) ?_
      obtain ⟨v13, r14, cv13, h⟩ := zcl_some h
      refine zc_V C ho hz hRm (qX12_mostOf _ _ _ _ Rx1 (zR_c 0 rfl) (zR_c (-1) rfl) p12.1 cv13) (lg_137 ho) (by decide) rfl (zgV zwd_1307 zwd_1309 zws_71 zwd_13 zwd_1310) rfl pX12_mostOf rfl ⟨rfl, rfl⟩ ⟨Nat.le_of_ble_eq_true rfl, Nat.le_of_ble_eq_true rfl⟩ [] rfl (Nat.le_of_ble_eq_true rfl) (zd tX12_laysBest 37 rfl) [zi r14] rfl (fun p15 => ?_)
      refine z_istore_n C (zd tX12_laysBest 38 rfl) (by rw [hN]; decide) ?_
      refine z_sipush C (by decide) (zd tX12_laysBest 39 rfl) ?_
      refine z_iload_n C (zd tX12_laysBest 40 rfl) rfl ?_
      refine z_iconst C (zd tX12_laysBest 41 rfl) ?_
      refine z_iadd C (zd tX12_laysBest 42 rfl) ?_
      refine z_imul C (zd tX12_laysBest 43 rfl) ?_
      obtain ⟨t16, et16, Rt16, h⟩ := zn_some h
      refine z_n0 (congrArg zI et16.symm) ?_
      refine z_istore C (zd tX12_laysBest 44 rfl) (by rw [hN]; decide) ?_
      refine z_iconst C (zd tX12_laysBest 45 rfl) ?_
      refine z_istore C (zd tX12_laysBest 46 rfl) (by rw [hN]; decide) ?_
      refine z_sub (lo' := [some (zr 137), some (zi x1), some (zi r11), some (zi r14), some (zi t16), some (zi 0), none, none, none]) (zsub_s (zsub_s (zsub_s (zsub_s (zsub_s (zsub_s (zsub_n (zsub_n (zsub_n zsub_0))))))))) ?_
      obtain ⟨v33, w34, lv33, h⟩ := zl_some h
      refine bX12_laysBest_L75 C hN ho hz hRm zFU v13 x1 r11 r14 t16 0 _ lv33 p15.1 Rx1 p12.2 p15.2 Rt16 (zR_c 0 rfl) (fun w1 q1 e1 hv33 Rw34 => ?_)
      obtain ⟨rfl, rfl⟩ := zpp e1
      obtain ⟨t35, et35, Rt35, h⟩ := zn_some h
      refine z_iincE C (zd tX12_laysBest 119 rfl) (by rw [hN]; decide) rfl et35 ?_
      refine z_goto (tgt := 43) C (zd tX12_laysBest 120 rfl) (by decide) ?_
      refine z_sub (lo' := [some (zr 137), some (zi t35), none, none, none, none, none, none, none]) (zsub_s (zsub_s (zsub_n (zsub_n (zsub_n (zsub_n (zsub_n (zsub_n (zsub_n zsub_0))))))))) ?_
      exact ih v33 t35 _ h hv33 Rt35 K1
set_option maxRecDepth 100000 in
set_option maxHeartbeats 4000000 in
theorem qX12_laysBest (l : Launch) (D : va_G) (ids : Nat → ClassId) (b : Nat)  {v v' : zHp} {r' : Int} (hv : zV 137 24 v) (h : fX12_laysBest v = some (v', r')) : zCT l yX12_laysBest vsX12_laysBest rmX12_laysBest D ids b 137 False 24 [zr 137] v 24 (zV 137 24 v') none v' 0 0 := by
  refine zMet (own := RX12) (by decide +kernel) (show vsX12_laysBest = _ from rfl) (Nat.le_of_ble_eq_true rfl) rfl ?_
  intro E hl hRm hD hids hb ho hz hN C hname ret
  subst hl hD hids hb
  unfold fX12_laysBest at h
  refine z_aload_n C (zd tX12_laysBest 0 rfl) rfl ?_
  obtain ⟨v1, r2, cv1, h⟩ := zcl_some h
  refine zc_V C ho hz hRm (qX12_laysWeekPremiums _ _ _ _ hv cv1) (lg_137 ho) (by decide) rfl (zgV zwd_1299 zwd_1301 zws_69 zwd_13 zwd_1302) rfl pX12_laysWeekPremiums rfl ⟨rfl, rfl⟩ ⟨Nat.le_of_ble_eq_true rfl, Nat.le_of_ble_eq_true rfl⟩ [] rfl (Nat.le_of_ble_eq_true rfl) (zd tX12_laysBest 1 rfl) [] rfl (fun p3 => ?_)
  refine z_iconst C (zd tX12_laysBest 2 rfl) ?_
  refine z_istore_n C (zd tX12_laysBest 3 rfl) (by rw [hN]; decide) ?_
  refine z_sub (lo' := [some (zr 137), some (zi 0), none, none, none, none, none, none, none]) (zsub_s (zsub_s (zsub_n (zsub_n (zsub_n (zsub_n (zsub_n (zsub_n (zsub_n zsub_0))))))))) ?_
  obtain ⟨v7, w8, lv7, h⟩ := zl_some h
  refine bX12_laysBest_L6 C hN ho hz hRm zFU v1 0 _ lv7 p3 (zR_c 0 rfl) (fun w1 q1 e1 hv7 Rw8 => ?_)
  obtain ⟨rfl, rfl⟩ := zpp e1
  refine z_aload_n C (zd tX12_laysBest 20 rfl) rfl ?_
  refine gf_12_23 C (lg_137 ho) zic_12 (zm zwd_1013) (zd tX12_laysBest 21 rfl) ?_
  refine z_iconst C (zd tX12_laysBest 22 rfl) ?_
  refine z_isub C (zd tX12_laysBest 23 rfl) ?_
  obtain ⟨t9, et9, Rt9, h⟩ := zn_some h
  refine z_n0 (congrArg zI et9.symm) ?_
  refine z_istore_n C (zd tX12_laysBest 24 rfl) (by rw [hN]; decide) ?_
  refine z_sub (lo' := [some (zr 137), some (zi t9), none, none, none, none, none, none, none]) (zsub_s (zsub_s (zsub_n (zsub_n (zsub_n (zsub_n (zsub_n (zsub_n (zsub_n zsub_0))))))))) ?_
  obtain ⟨v36, w37, lv36, h⟩ := zl_some h
  refine bX12_laysBest_L43 C hN ho hz hRm zFU v7 t9 _ lv36 hv7 Rt9 (fun w1 q1 e1 hv36 Rw37 => ?_)
  obtain ⟨rfl, rfl⟩ := zpp e1
  obtain ⟨rfl, rfl⟩ := zpi h
  exact ret.2.1 _ _ hv36 rfl rfl (zd tX12_laysBest 121 rfl)
noncomputable def vsX12_turned : List Cond := .code yX12_turned cX12_turned 1 (some .int) :: zbig
abbrev rmX12_turned : Room := { frames := 0, cells := 0, slots := 0, locals := 0 }
theorem pX12_turned : yX12_turned.cls = RX12 ∧ yX12_turned.cls ≠ "java/lang/invoke/MethodHandle" ∧ yX12_turned.cls ≠ "java/lang/invoke/VarHandle" ∧ (parseMethodDescriptor yX12_turned.desc).map (fun d => d.parameters.length) = some 0 := by decide +kernel
set_option maxRecDepth 100000 in
set_option maxHeartbeats 4000000 in
theorem qX12_turned (l : Launch) (D : va_G) (ids : Nat → ClassId) (b : Nat)  {v v' : zHp} {r' : Int} (hv : zV 137 24 v) (h : fX12_turned v = some (v', r')) : zCT l yX12_turned vsX12_turned rmX12_turned D ids b 137 False 24 [zr 137] v 24 (zV 137 24 v' ∧ zR r') (some (zi r')) v' 0 0 := by
  refine zMet (own := RX12) (by decide +kernel) (show vsX12_turned = _ from rfl) (Nat.le_of_ble_eq_true rfl) rfl ?_
  intro E hl hRm hD hids hb ho hz hN C hname ret
  subst hl hD hids hb
  unfold fX12_turned at h
  refine z_sipush C (by decide) (zd tX12_turned 0 rfl) ?_
  refine z_aload_n C (zd tX12_turned 1 rfl) rfl ?_
  refine gl_12_10 (t := 139) C (lg_137 ho) zic_12 (zm zwd_1000) (vl_12_10 ho hv (lg_137 ho)) (zd tX12_turned 2 rfl) ?_
  refine z_iconst C (zd tX12_turned 3 rfl) ?_
  obtain ⟨q1, h⟩ := zck_some h
  refine za_iald C (lg_139 ho) rfl (by decide) q1 (zd tX12_turned 4 rfl) ?_
  refine z_imul C (zd tX12_turned 5 rfl) ?_
  refine z_bipush C (by decide) (zd tX12_turned 6 rfl) ?_
  refine z_aload_n C (zd tX12_turned 7 rfl) rfl ?_
  refine gl_12_10 (t := 139) C (lg_137 ho) zic_12 (zm zwd_1000) (vl_12_10 ho hv (lg_137 ho)) (zd tX12_turned 8 rfl) ?_
  refine z_bipush C (by decide) (zd tX12_turned 9 rfl) ?_
  obtain ⟨q2, h⟩ := zck_some h
  refine za_iald C (lg_139 ho) rfl (by decide) q2 (zd tX12_turned 10 rfl) ?_
  refine z_imul C (zd tX12_turned 11 rfl) ?_
  refine z_iadd C (zd tX12_turned 12 rfl) ?_
  obtain ⟨t3, et3, Rt3, h⟩ := zn_some h
  refine z_n0 (congrArg zI et3.symm) ?_
  obtain ⟨rfl, rfl⟩ := zpi h
  exact ret.1 _ _ _ _ ⟨hv, Rt3⟩ rfl rfl rfl (zd tX12_turned 13 rfl)
noncomputable def vsX12_within : List Cond := .code yX12_within cX12_within 3 (some .boolean) :: zbig
abbrev rmX12_within : Room := { frames := 0, cells := 0, slots := 0, locals := 0 }
theorem pX12_within : yX12_within.cls = RX12 ∧ yX12_within.cls ≠ "java/lang/invoke/MethodHandle" ∧ yX12_within.cls ≠ "java/lang/invoke/VarHandle" ∧ (parseMethodDescriptor yX12_within.desc).map (fun d => d.parameters.length) = some 3 := by decide +kernel
set_option maxRecDepth 100000 in
set_option maxHeartbeats 4000000 in
theorem qX12_within (l : Launch) (D : va_G) (ids : Nat → ClassId) (b : Nat) {x0 : Int} (Rx0 : zR x0) {x1 : Int} (Rx1 : zR x1) {x2 : Int} (Rx2 : zR x2) {v v' : zHp} {r' : Int} (hv : zV 137 24 v) (h : fX12_within v x0 x1 x2 = some (v', r')) : zCT l yX12_within vsX12_within rmX12_within D ids b 137 False 24 [zi x0, zi x1, zi x2] v 24 (zV 137 24 v' ∧ zR r') (some (zi r')) v' 0 0 := by
  refine zMet (own := RX12) (by decide +kernel) (show vsX12_within = _ from rfl) (Nat.le_of_ble_eq_true rfl) rfl ?_
  intro E hl hRm hD hids hb ho hz hN C hname ret
  subst hl hD hids hb
  unfold fX12_within at h
  refine z_iload_n C (zd tX12_within 0 rfl) rfl ?_
  refine z_iload_n C (zd tX12_within 1 rfl) rfl ?_
  refine z_icmp_lt (tgt := 14) C Rx0 Rx1 (zd tX12_within 2 rfl) (by decide) h (fun h => ?_) (fun h => ?_)
  · refine z_iconst C (zd tX12_within 8 rfl) ?_
    obtain ⟨rfl, rfl⟩ := zpi h
    exact ret.1 _ _ _ _ ⟨hv, (zR_c 0 rfl)⟩ rfl rfl (by decide) (zd tX12_within 9 rfl)
  · refine z_iload_n C (zd tX12_within 3 rfl) rfl ?_
    refine z_iload_n C (zd tX12_within 4 rfl) rfl ?_
    refine z_icmp_gt (tgt := 14) C Rx0 Rx2 (zd tX12_within 5 rfl) (by decide) h (fun h => ?_) (fun h => ?_)
    · refine z_iconst C (zd tX12_within 8 rfl) ?_
      obtain ⟨rfl, rfl⟩ := zpi h
      exact ret.1 _ _ _ _ ⟨hv, (zR_c 0 rfl)⟩ rfl rfl (by decide) (zd tX12_within 9 rfl)
    · refine z_iconst C (zd tX12_within 6 rfl) ?_
      refine z_goto (tgt := 15) C (zd tX12_within 7 rfl) (by decide) ?_
      obtain ⟨rfl, rfl⟩ := zpi h
      exact ret.1 _ _ _ _ ⟨hv, (zR_c 1 rfl)⟩ rfl rfl (by decide) (zd tX12_within 9 rfl)
noncomputable def vsX12_toldAt : List Cond := .code yX12_toldAt cX12_toldAt 3 (some .int) :: zbig
abbrev rmX12_toldAt : Room := { frames := 1, cells := 0, slots := 0, locals := 22 }
theorem pX12_toldAt : yX12_toldAt.cls = RX12 ∧ yX12_toldAt.cls ≠ "java/lang/invoke/MethodHandle" ∧ yX12_toldAt.cls ≠ "java/lang/invoke/VarHandle" ∧ (parseMethodDescriptor yX12_toldAt.desc).map (fun d => d.parameters.length) = some 1 := by decide +kernel
set_option maxRecDepth 100000 in
set_option maxHeartbeats 4000000 in
theorem jX12_toldAt_J73 {E : zE} (C : zC E 24 cX12_toldAt RX12 vsX12_toldAt) (hN : zEN E = 3) (ho : zEo E = 137) (hz : zEz E = False) (hRm : zER E = rmX12_toldAt) {v' : zHp} {r' : Int} (ret : zRet E cX12_toldAt 0 0 24 (some .int) (zV 137 24 v' ∧ zR r') (some (zi r')) v') (v : zHp) (x1 : Int) (x2 : Int) (h : fX12_toldAt_J73 v x1 x2 = some (v', r')) (hv : zV 137 24 v) (Rx1 : zR x1) (Rx2 : zR x2) : zX E 0 0 24 v 73 [none, some (zi x1), some (zi x2)] [] := by
  unfold fX12_toldAt_J73 at h
  refine z_iload_n C (zd tX12_toldAt 43 rfl) rfl ?_
  refine z_iconst C (zd tX12_toldAt 44 rfl) ?_
  refine z_ldc (x := (40319 : Int32)) (i := 40319) C (by decide) (zm zwd_1202) (zd tX12_toldAt 45 rfl) ?_
  obtain ⟨v3, r4, cv3, h⟩ := zcl_some h
  refine zc_S C ho hz hRm (qX12_within _ _ _ _ Rx2 (zR_c 0 rfl) (zR_c 40319 rfl) hv cv3) (zgS zwd_1109 zwd_1110 zwd_13 zwd_1111) rfl pX12_within rfl ⟨rfl, rfl⟩ ⟨Nat.le_of_ble_eq_true rfl, Nat.le_of_ble_eq_true rfl⟩ [] rfl (Nat.le_of_ble_eq_true rfl) (zd tX12_toldAt 46 rfl) [zi r4] rfl (fun p5 => ?_)
  refine z_if_eq (tgt := 91) C p5.2 (zd tX12_toldAt 47 rfl) (by decide) h (fun h => ?_) (fun h => ?_)
  · refine z_iconst C (zd tX12_toldAt 52 rfl) ?_
    obtain ⟨rfl, rfl⟩ := zpi h
    exact ret.1 _ _ _ _ ⟨p5.1, (zR_c (-1) rfl)⟩ rfl rfl rfl (zd tX12_toldAt 53 rfl)
  · refine z_iload_n C (zd tX12_toldAt 48 rfl) rfl ?_
    refine z_if_lt (tgt := 91) C Rx1 (zd tX12_toldAt 49 rfl) (by decide) h (fun h => ?_) (fun h => ?_)
    · refine z_iconst C (zd tX12_toldAt 52 rfl) ?_
      obtain ⟨rfl, rfl⟩ := zpi h
      exact ret.1 _ _ _ _ ⟨p5.1, (zR_c (-1) rfl)⟩ rfl rfl rfl (zd tX12_toldAt 53 rfl)
    · refine z_iload_n C (zd tX12_toldAt 50 rfl) rfl ?_
      refine z_goto (tgt := 92) C (zd tX12_toldAt 51 rfl) (by decide) ?_
      obtain ⟨rfl, rfl⟩ := zpi h
      exact ret.1 _ _ _ _ ⟨p5.1, Rx2⟩ rfl rfl rfl (zd tX12_toldAt 53 rfl)
set_option maxRecDepth 100000 in
set_option maxHeartbeats 4000000 in
theorem jX12_toldAt_J72 {E : zE} (C : zC E 24 cX12_toldAt RX12 vsX12_toldAt) (hN : zEN E = 3) (ho : zEo E = 137) (hz : zEz E = False) (hRm : zER E = rmX12_toldAt) {v' : zHp} {r' : Int} (ret : zRet E cX12_toldAt 0 0 24 (some .int) (zV 137 24 v' ∧ zR r') (some (zi r')) v') (v : zHp) (x1 : Int) (s0 : Int) (h : fX12_toldAt_J72 v x1 s0 = some (v', r')) (hv : zV 137 24 v) (Rx1 : zR x1) (Rs0 : zR s0) : zX E 0 0 24 v 72 [none, some (zi x1), none] [zi s0] := by
  unfold fX12_toldAt_J72 at h
  refine z_istore_n C (zd tX12_toldAt 42 rfl) (by rw [hN]; decide) ?_
  refine z_sub (lo' := [none, some (zi x1), some (zi s0)]) (zsub_n (zsub_s (zsub_s zsub_0))) ?_
  exact jX12_toldAt_J73 C hN ho hz hRm ret v x1 s0 h hv Rx1 Rs0
set_option maxRecDepth 100000 in
set_option maxHeartbeats 4000000 in
theorem jX12_toldAt_J43 {E : zE} (C : zC E 24 cX12_toldAt RX12 vsX12_toldAt) (hN : zEN E = 3) (ho : zEo E = 137) (hz : zEz E = False) (hRm : zER E = rmX12_toldAt) {v' : zHp} {r' : Int} (ret : zRet E cX12_toldAt 0 0 24 (some .int) (zV 137 24 v' ∧ zR r') (some (zi r')) v') (v : zHp) (x1 : Int) (x2 : Int) (h : fX12_toldAt_J43 v x1 x2 = some (v', r')) (hv : zV 137 24 v) (Rx1 : zR x1) (Rx2 : zR x2) : zX E 0 0 24 v 43 [some (zr 137), some (zi x1), some (zi x2)] [] := by
  unfold fX12_toldAt_J43 at h
  refine z_aload_n C (zd tX12_toldAt 25 rfl) rfl ?_
  refine gl_12_10 (t := 139) C (lg_137 ho) zic_12 (zm zwd_1000) (vl_12_10 ho hv (lg_137 ho)) (zd tX12_toldAt 26 rfl) ?_
  refine z_iconst C (zd tX12_toldAt 27 rfl) ?_
  obtain ⟨q2, h⟩ := zck_some h
  refine za_iald C (lg_139 ho) rfl (by decide) q2 (zd tX12_toldAt 28 rfl) ?_
  refine z_iconst C (zd tX12_toldAt 29 rfl) ?_
  refine z_icmp_eq (tgt := 73) C (hv.1 _ _) (zR_c (-1) rfl) (zd tX12_toldAt 30 rfl) (by decide) h (fun h => ?_) (fun h => ?_)
  · refine z_sub (lo' := [none, some (zi x1), some (zi x2)]) (zsub_n (zsub_s (zsub_s zsub_0))) ?_
    exact jX12_toldAt_J73 C hN ho hz hRm ret v x1 x2 h hv Rx1 Rx2
  · refine z_iload_n C (zd tX12_toldAt 31 rfl) rfl ?_
    refine z_aload_n C (zd tX12_toldAt 32 rfl) rfl ?_
    obtain ⟨v6, r7, cv6, h⟩ := zcl_some h
    refine zc_V C ho hz hRm (qX12_turned _ _ _ _ hv cv6) (lg_137 ho) (by decide) rfl (zgV zwd_1189 zwd_1191 zws_49 zwd_13 zwd_1192) rfl pX12_turned rfl ⟨rfl, rfl⟩ ⟨Nat.le_of_ble_eq_true rfl, Nat.le_of_ble_eq_true rfl⟩ [zi x1] rfl (Nat.le_of_ble_eq_true rfl) (zd tX12_toldAt 33 rfl) [zi r7, zi x1] rfl (fun p8 => ?_)
    refine z_bipush C (by decide) (zd tX12_toldAt 34 rfl) ?_
    refine z_iadd C (zd tX12_toldAt 35 rfl) ?_
    obtain ⟨t9, et9, Rt9, h⟩ := zn_some h
    refine z_n0 (congrArg zI et9.symm) ?_
    refine z_icmp_ge (tgt := 68) C Rx1 Rt9 (zd tX12_toldAt 36 rfl) (by decide) h (fun h => ?_) (fun h => ?_)
    · refine z_iload_n C (zd tX12_toldAt 39 rfl) rfl ?_
      refine z_bipush C (by decide) (zd tX12_toldAt 40 rfl) ?_
      refine z_isub C (zd tX12_toldAt 41 rfl) ?_
      obtain ⟨t10, et10, Rt10, h⟩ := zn_some h
      refine z_nk 0 (congrArg zI et10.symm) rfl ?_
      refine z_sub (lo' := [none, some (zi x1), none]) (zsub_n (zsub_s (zsub_n zsub_0))) ?_
      exact jX12_toldAt_J72 C hN ho hz hRm ret v6 x1 t10 h p8.1 Rx1 Rt10
    · refine z_iload_n C (zd tX12_toldAt 37 rfl) rfl ?_
      refine z_goto (tgt := 72) C (zd tX12_toldAt 38 rfl) (by decide) ?_
      refine z_sub (lo' := [none, some (zi x1), none]) (zsub_n (zsub_s (zsub_n zsub_0))) ?_
      exact jX12_toldAt_J72 C hN ho hz hRm ret v6 x1 x1 h p8.1 Rx1 Rx1
set_option maxRecDepth 100000 in
set_option maxHeartbeats 4000000 in
theorem jX12_toldAt_J39 {E : zE} (C : zC E 24 cX12_toldAt RX12 vsX12_toldAt) (hN : zEN E = 3) (ho : zEo E = 137) (hz : zEz E = False) (hRm : zER E = rmX12_toldAt) {v' : zHp} {r' : Int} (ret : zRet E cX12_toldAt 0 0 24 (some .int) (zV 137 24 v' ∧ zR r') (some (zi r')) v') (v : zHp) (x1 : Int) (s0 : Int) (h : fX12_toldAt_J39 v x1 s0 = some (v', r')) (hv : zV 137 24 v) (Rx1 : zR x1) (Rs0 : zR s0) : zX E 0 0 24 v 39 [none, some (zi x1), none] [zi s0] := by
  unfold fX12_toldAt_J39 at h
  refine z_istore_n C (zd tX12_toldAt 23 rfl) (by rw [hN]; decide) ?_
  refine z_goto (tgt := 73) C (zd tX12_toldAt 24 rfl) (by decide) ?_
  refine z_sub (lo' := [none, some (zi x1), some (zi s0)]) (zsub_n (zsub_s (zsub_s zsub_0))) ?_
  exact jX12_toldAt_J73 C hN ho hz hRm ret v x1 s0 h hv Rx1 Rs0
set_option maxRecDepth 100000 in
set_option maxHeartbeats 4000000 in
theorem qX12_toldAt (l : Launch) (D : va_G) (ids : Nat → ClassId) (b : Nat) {x1 : Int} (Rx1 : zR x1) {v v' : zHp} {r' : Int} (hv : zV 137 24 v) (h : fX12_toldAt v x1 = some (v', r')) : zCT l yX12_toldAt vsX12_toldAt rmX12_toldAt D ids b 137 False 24 [zr 137, zi x1] v 24 (zV 137 24 v' ∧ zR r') (some (zi r')) v' 0 0 := by
  refine zMet (own := RX12) (by decide +kernel) (show vsX12_toldAt = _ from rfl) (Nat.le_of_ble_eq_true rfl) rfl ?_
  intro E hl hRm hD hids hb ho hz hN C hname ret
  subst hl hD hids hb
  unfold fX12_toldAt at h
  refine z_iload_n C (zd tX12_toldAt 0 rfl) rfl ?_
  refine z_istore_n C (zd tX12_toldAt 1 rfl) (by rw [hN]; decide) ?_
  refine z_aload_n C (zd tX12_toldAt 2 rfl) rfl ?_
  refine gl_12_10 (t := 139) C (lg_137 ho) zic_12 (zm zwd_1000) (vl_12_10 ho hv (lg_137 ho)) (zd tX12_toldAt 3 rfl) ?_
  refine z_iconst C (zd tX12_toldAt 4 rfl) ?_
  obtain ⟨q1, h⟩ := zck_some h
  refine za_iald C (lg_139 ho) rfl (by decide) q1 (zd tX12_toldAt 5 rfl) ?_
  refine z_iconst C (zd tX12_toldAt 6 rfl) ?_
  refine z_icmp_eq (tgt := 43) C (hv.1 _ _) (zR_c (-1) rfl) (zd tX12_toldAt 7 rfl) (by decide) h (fun h => ?_) (fun h => ?_)
  · refine z_sub (lo' := [some (zr 137), some (zi x1), some (zi x1)]) (zsub_s (zsub_s (zsub_s zsub_0))) ?_
    exact jX12_toldAt_J43 C hN ho hz hRm ret v x1 x1 h hv Rx1 Rx1
  · refine z_aload_n C (zd tX12_toldAt 8 rfl) rfl ?_
    refine gl_12_10 (t := 139) C (lg_137 ho) zic_12 (zm zwd_1000) (vl_12_10 ho hv (lg_137 ho)) (zd tX12_toldAt 9 rfl) ?_
    refine z_bipush C (by decide) (zd tX12_toldAt 10 rfl) ?_
    obtain ⟨q11, h⟩ := zck_some h
    refine za_iald C (lg_139 ho) rfl (by decide) q11 (zd tX12_toldAt 11 rfl) ?_
    refine z_iconst C (zd tX12_toldAt 12 rfl) ?_
    refine z_icmp_ne (tgt := 43) C (hv.1 _ _) (zR_c 1 rfl) (zd tX12_toldAt 13 rfl) (by decide) h (fun h => ?_) (fun h => ?_)
    · refine z_sub (lo' := [some (zr 137), some (zi x1), some (zi x1)]) (zsub_s (zsub_s (zsub_s zsub_0))) ?_
      exact jX12_toldAt_J43 C hN ho hz hRm ret v x1 x1 h hv Rx1 Rx1
    · refine z_iload_n C (zd tX12_toldAt 14 rfl) rfl ?_
      refine z_aload_n C (zd tX12_toldAt 15 rfl) rfl ?_
      obtain ⟨v12, r13, cv12, h⟩ := zcl_some h
      refine zc_V C ho hz hRm (qX12_turned _ _ _ _ hv cv12) (lg_137 ho) (by decide) rfl (zgV zwd_1189 zwd_1191 zws_49 zwd_13 zwd_1192) rfl pX12_turned rfl ⟨rfl, rfl⟩ ⟨Nat.le_of_ble_eq_true rfl, Nat.le_of_ble_eq_true rfl⟩ [zi x1] rfl (Nat.le_of_ble_eq_true rfl) (zd tX12_toldAt 16 rfl) [zi r13, zi x1] rfl (fun p14 => ?_)
      refine z_icmp_ge (tgt := 35) C Rx1 p14.2 (zd tX12_toldAt 17 rfl) (by decide) h (fun h => ?_) (fun h => ?_)
      · refine z_iload_n C (zd tX12_toldAt 20 rfl) rfl ?_
        refine z_bipush C (by decide) (zd tX12_toldAt 21 rfl) ?_
        refine z_iadd C (zd tX12_toldAt 22 rfl) ?_
        obtain ⟨t15, et15, Rt15, h⟩ := zn_some h
        refine z_nk 0 (congrArg zI et15.symm) rfl ?_
        refine z_sub (lo' := [none, some (zi x1), none]) (zsub_n (zsub_s (zsub_n zsub_0))) ?_
        exact jX12_toldAt_J39 C hN ho hz hRm ret v12 x1 t15 h p14.1 Rx1 Rt15
      · refine z_iload_n C (zd tX12_toldAt 18 rfl) rfl ?_
        refine z_goto (tgt := 39) C (zd tX12_toldAt 19 rfl) (by decide) ?_
        refine z_sub (lo' := [none, some (zi x1), none]) (zsub_n (zsub_s (zsub_n zsub_0))) ?_
        exact jX12_toldAt_J39 C hN ho hz hRm ret v12 x1 x1 h p14.1 Rx1 Rx1
noncomputable def vsX12_dayOf : List Cond := .code yX12_dayOf cX12_dayOf 2 (some .int) :: zbig
abbrev rmX12_dayOf : Room := { frames := 2, cells := 0, slots := 0, locals := 44 }
theorem pX12_dayOf : yX12_dayOf.cls = RX12 ∧ yX12_dayOf.cls ≠ "java/lang/invoke/MethodHandle" ∧ yX12_dayOf.cls ≠ "java/lang/invoke/VarHandle" ∧ (parseMethodDescriptor yX12_dayOf.desc).map (fun d => d.parameters.length) = some 1 := by decide +kernel
set_option maxRecDepth 100000 in
set_option maxHeartbeats 4000000 in
theorem qX12_dayOf (l : Launch) (D : va_G) (ids : Nat → ClassId) (b : Nat) {x1 : Int} (Rx1 : zR x1) {v v' : zHp} {r' : Int} (hv : zV 137 24 v) (h : fX12_dayOf v x1 = some (v', r')) : zCT l yX12_dayOf vsX12_dayOf rmX12_dayOf D ids b 137 False 24 [zr 137, zi x1] v 24 (zV 137 24 v' ∧ zR r') (some (zi r')) v' 0 0 := by
  refine zMet (own := RX12) (by decide +kernel) (show vsX12_dayOf = _ from rfl) (Nat.le_of_ble_eq_true rfl) rfl ?_
  intro E hl hRm hD hids hb ho hz hN C hname ret
  subst hl hD hids hb
  unfold fX12_dayOf at h
  refine z_aload_n C (zd tX12_dayOf 0 rfl) rfl ?_
  refine z_bipush C (by decide) (zd tX12_dayOf 1 rfl) ?_
  refine z_iload_n C (zd tX12_dayOf 2 rfl) rfl ?_
  refine z_imul C (zd tX12_dayOf 3 rfl) ?_
  obtain ⟨t1, et1, Rt1, h⟩ := zn_some h
  refine z_nk 0 (congrArg zI et1.symm) rfl ?_
  obtain ⟨v2, r3, cv2, h⟩ := zcl_some h
  refine zc_V C ho hz hRm (qX12_toldAt _ _ _ _ Rt1 hv cv2) (lg_137 ho) (by decide) rfl (zgV zwd_1198 zwd_1200 zws_50 zwd_13 zwd_1201) rfl pX12_toldAt rfl ⟨rfl, rfl⟩ ⟨Nat.le_of_ble_eq_true rfl, Nat.le_of_ble_eq_true rfl⟩ [] rfl (Nat.le_of_ble_eq_true rfl) (zd tX12_dayOf 4 rfl) [zi r3] rfl (fun p4 => ?_)
  refine z_sipush C (by decide) (zd tX12_dayOf 5 rfl) ?_
  refine z_idiv C p4.2 (by decide) (zR_c 1440 rfl) (zd tX12_dayOf 6 rfl) ?_
  obtain ⟨rfl, rfl⟩ := zpi h
  exact ret.1 _ _ _ _ ⟨p4.1, (zR_div p4.2 (by decide))⟩ rfl rfl rfl (zd tX12_dayOf 7 rfl)
noncomputable def vsX12_hourOf : List Cond := .code yX12_hourOf cX12_hourOf 2 (some .int) :: zbig
abbrev rmX12_hourOf : Room := { frames := 2, cells := 0, slots := 0, locals := 44 }
theorem pX12_hourOf : yX12_hourOf.cls = RX12 ∧ yX12_hourOf.cls ≠ "java/lang/invoke/MethodHandle" ∧ yX12_hourOf.cls ≠ "java/lang/invoke/VarHandle" ∧ (parseMethodDescriptor yX12_hourOf.desc).map (fun d => d.parameters.length) = some 1 := by decide +kernel
set_option maxRecDepth 100000 in
set_option maxHeartbeats 4000000 in
theorem qX12_hourOf (l : Launch) (D : va_G) (ids : Nat → ClassId) (b : Nat) {x1 : Int} (Rx1 : zR x1) {v v' : zHp} {r' : Int} (hv : zV 137 24 v) (h : fX12_hourOf v x1 = some (v', r')) : zCT l yX12_hourOf vsX12_hourOf rmX12_hourOf D ids b 137 False 24 [zr 137, zi x1] v 24 (zV 137 24 v' ∧ zR r') (some (zi r')) v' 0 0 := by
  refine zMet (own := RX12) (by decide +kernel) (show vsX12_hourOf = _ from rfl) (Nat.le_of_ble_eq_true rfl) rfl ?_
  intro E hl hRm hD hids hb ho hz hN C hname ret
  subst hl hD hids hb
  unfold fX12_hourOf at h
  refine z_aload_n C (zd tX12_hourOf 0 rfl) rfl ?_
  refine z_bipush C (by decide) (zd tX12_hourOf 1 rfl) ?_
  refine z_iload_n C (zd tX12_hourOf 2 rfl) rfl ?_
  refine z_imul C (zd tX12_hourOf 3 rfl) ?_
  obtain ⟨t1, et1, Rt1, h⟩ := zn_some h
  refine z_nk 0 (congrArg zI et1.symm) rfl ?_
  obtain ⟨v2, r3, cv2, h⟩ := zcl_some h
  refine zc_V C ho hz hRm (qX12_toldAt _ _ _ _ Rt1 hv cv2) (lg_137 ho) (by decide) rfl (zgV zwd_1198 zwd_1200 zws_50 zwd_13 zwd_1201) rfl pX12_toldAt rfl ⟨rfl, rfl⟩ ⟨Nat.le_of_ble_eq_true rfl, Nat.le_of_ble_eq_true rfl⟩ [] rfl (Nat.le_of_ble_eq_true rfl) (zd tX12_hourOf 4 rfl) [zi r3] rfl (fun p4 => ?_)
  refine z_sipush C (by decide) (zd tX12_hourOf 5 rfl) ?_
  refine z_irem C p4.2 (by decide) (zR_c 1440 rfl) (zd tX12_hourOf 6 rfl) ?_
  refine z_bipush C (by decide) (zd tX12_hourOf 7 rfl) ?_
  refine z_idiv C (zR_mod (by decide) (zR_c 1440 rfl)) (by decide) (zR_c 60 rfl) (zd tX12_hourOf 8 rfl) ?_
  obtain ⟨rfl, rfl⟩ := zpi h
  exact ret.1 _ _ _ _ ⟨p4.1, (zR_div (zR_mod (by decide) (zR_c 1440 rfl)) (by decide))⟩ rfl rfl rfl (zd tX12_hourOf 9 rfl)
noncomputable def vsX12_isNight : List Cond := .code yX12_isNight cX12_isNight 5 (some .boolean) :: zbig
abbrev rmX12_isNight : Room := { frames := 1, cells := 0, slots := 0, locals := 22 }
theorem pX12_isNight : yX12_isNight.cls = RX12 ∧ yX12_isNight.cls ≠ "java/lang/invoke/MethodHandle" ∧ yX12_isNight.cls ≠ "java/lang/invoke/VarHandle" ∧ (parseMethodDescriptor yX12_isNight.desc).map (fun d => d.parameters.length) = some 2 := by decide +kernel
set_option maxRecDepth 100000 in
set_option maxHeartbeats 4000000 in
theorem qX12_isNight (l : Launch) (D : va_G) (ids : Nat → ClassId) (b : Nat) {x1 : Int} (Rx1 : zR x1) {x2 : Int} (Rx2 : zR x2) {v v' : zHp} {r' : Int} (hv : zV 137 24 v) (h : fX12_isNight v x1 x2 = some (v', r')) : zCT l yX12_isNight vsX12_isNight rmX12_isNight D ids b 137 False 24 [zr 137, zi x1, zi x2] v 24 (zV 137 24 v' ∧ zR r') (some (zi r')) v' 0 0 := by
  refine zMet (own := RX12) (by decide +kernel) (show vsX12_isNight = _ from rfl) (Nat.le_of_ble_eq_true rfl) rfl ?_
  intro E hl hRm hD hids hb ho hz hN C hname ret
  subst hl hD hids hb
  unfold fX12_isNight at h
  refine z_aload_n C (zd tX12_isNight 0 rfl) rfl ?_
  refine z_iload_n C (zd tX12_isNight 1 rfl) rfl ?_
  refine z_iconst C (zd tX12_isNight 2 rfl) ?_
  obtain ⟨v1, r2, cv1, h⟩ := zcl_some h
  refine zc_V C ho hz hRm (qX12_premiumIs _ _ _ _ Rx1 (zR_c 3 rfl) hv cv1) (lg_137 ho) (by decide) rfl (zgV zwd_1177 zwd_1179 zws_47 zwd_13 zwd_1180) rfl pX12_premiumIs rfl ⟨rfl, rfl⟩ ⟨Nat.le_of_ble_eq_true rfl, Nat.le_of_ble_eq_true rfl⟩ [] rfl (Nat.le_of_ble_eq_true rfl) (zd tX12_isNight 3 rfl) [zi r2] rfl (fun p3 => ?_)
  refine z_istore_n C (zd tX12_isNight 4 rfl) (by rw [hN]; decide) ?_
  refine z_aload_n C (zd tX12_isNight 5 rfl) rfl ?_
  refine z_iload_n C (zd tX12_isNight 6 rfl) rfl ?_
  refine z_iconst C (zd tX12_isNight 7 rfl) ?_
  obtain ⟨v4, r5, cv4, h⟩ := zcl_some h
  refine zc_V C ho hz hRm (qX12_premiumIs _ _ _ _ Rx1 (zR_c 4 rfl) p3.1 cv4) (lg_137 ho) (by decide) rfl (zgV zwd_1177 zwd_1179 zws_47 zwd_13 zwd_1180) rfl pX12_premiumIs rfl ⟨rfl, rfl⟩ ⟨Nat.le_of_ble_eq_true rfl, Nat.le_of_ble_eq_true rfl⟩ [] rfl (Nat.le_of_ble_eq_true rfl) (zd tX12_isNight 8 rfl) [zi r5] rfl (fun p6 => ?_)
  refine z_istore C (zd tX12_isNight 9 rfl) (by rw [hN]; decide) ?_
  refine z_iload_n C (zd tX12_isNight 10 rfl) rfl ?_
  refine z_iload C (zd tX12_isNight 11 rfl) rfl ?_
  refine z_icmp_le (tgt := 40) C p3.2 p6.2 (zd tX12_isNight 12 rfl) (by decide) h (fun h => ?_) (fun h => ?_)
  · refine z_iload_n C (zd tX12_isNight 23 rfl) rfl ?_
    refine z_iload_n C (zd tX12_isNight 24 rfl) rfl ?_
    refine z_icmp_lt (tgt := 55) C Rx2 p3.2 (zd tX12_isNight 25 rfl) (by decide) h (fun h => ?_) (fun h => ?_)
    · refine z_iconst C (zd tX12_isNight 31 rfl) ?_
      obtain ⟨rfl, rfl⟩ := zpi h
      exact ret.1 _ _ _ _ ⟨p6.1, (zR_c 0 rfl)⟩ rfl rfl (by decide) (zd tX12_isNight 32 rfl)
    · refine z_iload_n C (zd tX12_isNight 26 rfl) rfl ?_
      refine z_iload C (zd tX12_isNight 27 rfl) rfl ?_
      refine z_icmp_ge (tgt := 55) C Rx2 p6.2 (zd tX12_isNight 28 rfl) (by decide) h (fun h => ?_) (fun h => ?_)
      · refine z_iconst C (zd tX12_isNight 31 rfl) ?_
        obtain ⟨rfl, rfl⟩ := zpi h
        exact ret.1 _ _ _ _ ⟨p6.1, (zR_c 0 rfl)⟩ rfl rfl (by decide) (zd tX12_isNight 32 rfl)
      · refine z_iconst C (zd tX12_isNight 29 rfl) ?_
        refine z_goto (tgt := 56) C (zd tX12_isNight 30 rfl) (by decide) ?_
        obtain ⟨rfl, rfl⟩ := zpi h
        exact ret.1 _ _ _ _ ⟨p6.1, (zR_c 1 rfl)⟩ rfl rfl (by decide) (zd tX12_isNight 32 rfl)
  · refine z_iload_n C (zd tX12_isNight 13 rfl) rfl ?_
    refine z_iload_n C (zd tX12_isNight 14 rfl) rfl ?_
    refine z_icmp_ge (tgt := 32) C Rx2 p3.2 (zd tX12_isNight 15 rfl) (by decide) h (fun h => ?_) (fun h => ?_)
    · refine z_iconst C (zd tX12_isNight 19 rfl) ?_
      refine z_goto (tgt := 56) C (zd tX12_isNight 20 rfl) (by decide) ?_
      obtain ⟨rfl, rfl⟩ := zpi h
      exact ret.1 _ _ _ _ ⟨p6.1, (zR_c 1 rfl)⟩ rfl rfl (by decide) (zd tX12_isNight 32 rfl)
    · refine z_iload_n C (zd tX12_isNight 16 rfl) rfl ?_
      refine z_iload C (zd tX12_isNight 17 rfl) rfl ?_
      refine z_icmp_ge (tgt := 36) C Rx2 p6.2 (zd tX12_isNight 18 rfl) (by decide) h (fun h => ?_) (fun h => ?_)
      · refine z_iconst C (zd tX12_isNight 21 rfl) ?_
        refine z_goto (tgt := 56) C (zd tX12_isNight 22 rfl) (by decide) ?_
        obtain ⟨rfl, rfl⟩ := zpi h
        exact ret.1 _ _ _ _ ⟨p6.1, (zR_c 0 rfl)⟩ rfl rfl (by decide) (zd tX12_isNight 32 rfl)
      · refine z_iconst C (zd tX12_isNight 19 rfl) ?_
        refine z_goto (tgt := 56) C (zd tX12_isNight 20 rfl) (by decide) ?_
        obtain ⟨rfl, rfl⟩ := zpi h
        exact ret.1 _ _ _ _ ⟨p6.1, (zR_c 1 rfl)⟩ rfl rfl (by decide) (zd tX12_isNight 32 rfl)
noncomputable def vsX12_isMay : List Cond := .code yX12_isMay cX12_isMay 6 (some .boolean) :: zbig
abbrev rmX12_isMay : Room := { frames := 3, cells := 0, slots := 0, locals := 65 }
theorem pX12_isMay : yX12_isMay.cls = RX12 ∧ yX12_isMay.cls ≠ "java/lang/invoke/MethodHandle" ∧ yX12_isMay.cls ≠ "java/lang/invoke/VarHandle" ∧ (parseMethodDescriptor yX12_isMay.desc).map (fun d => d.parameters.length) = some 5 := by decide +kernel
set_option maxRecDepth 100000 in
set_option maxHeartbeats 4000000 in
theorem qX12_isMay (l : Launch) (D : va_G) (ids : Nat → ClassId) (b : Nat) {x1 : Int} (Rx1 : zR x1) {x2 : Int} (Rx2 : zR x2) {x3 : Int} (Rx3 : zR x3) {x4 : Int} (Rx4 : zR x4) {x5 : Int} (Rx5 : zR x5) {v v' : zHp} {r' : Int} (hv : zV 137 24 v) (h : fX12_isMay v x1 x2 x3 x4 x5 = some (v', r')) : zCT l yX12_isMay vsX12_isMay rmX12_isMay D ids b 137 False 24 [zr 137, zi x1, zi x2, zi x3, zi x4, zi x5] v 24 (zV 137 24 v' ∧ zR r') (some (zi r')) v' 0 0 := by
  refine zMet (own := RX12) (by decide +kernel) (show vsX12_isMay = _ from rfl) (Nat.le_of_ble_eq_true rfl) rfl ?_
  intro E hl hRm hD hids hb ho hz hN C hname ret
  subst hl hD hids hb
  unfold fX12_isMay at h
  refine z_aload_n C (zd tX12_isMay 0 rfl) rfl ?_
  refine z_iload_n C (zd tX12_isMay 1 rfl) rfl ?_
  refine z_iconst C (zd tX12_isMay 2 rfl) ?_
  obtain ⟨v1, r2, cv1, h⟩ := zcl_some h
  refine zc_V C ho hz hRm (qX12_premiumIs _ _ _ _ Rx1 (zR_c 0 rfl) hv cv1) (lg_137 ho) (by decide) rfl (zgV zwd_1177 zwd_1179 zws_47 zwd_13 zwd_1180) rfl pX12_premiumIs rfl ⟨rfl, rfl⟩ ⟨Nat.le_of_ble_eq_true rfl, Nat.le_of_ble_eq_true rfl⟩ [] rfl (Nat.le_of_ble_eq_true rfl) (zd tX12_isMay 3 rfl) [zi r2] rfl (fun p3 => ?_)
  by_cases c6_0 : r2 = 0
  · rw [if_pos c6_0] at h
    refine z_tblIn (tgt := 36) C p3.2 c6_0 (zd tX12_isMay 4 rfl) (by decide) (by decide) rfl (by decide) ?_
    refine z_iload C (zd tX12_isMay 5 rfl) rfl ?_
    refine z_aload_n C (zd tX12_isMay 6 rfl) rfl ?_
    refine z_iload_n C (zd tX12_isMay 7 rfl) rfl ?_
    refine z_iconst C (zd tX12_isMay 8 rfl) ?_
    obtain ⟨v4, r5, cv4, h⟩ := zcl_some h
    refine zc_V C ho hz hRm (qX12_premiumIs _ _ _ _ Rx1 (zR_c 3 rfl) p3.1 cv4) (lg_137 ho) (by decide) rfl (zgV zwd_1177 zwd_1179 zws_47 zwd_13 zwd_1180) rfl pX12_premiumIs rfl ⟨rfl, rfl⟩ ⟨Nat.le_of_ble_eq_true rfl, Nat.le_of_ble_eq_true rfl⟩ [zi x4] rfl (Nat.le_of_ble_eq_true rfl) (zd tX12_isMay 9 rfl) [zi r5, zi x4] rfl (fun p6 => ?_)
    refine z_icmp_lt (tgt := 51) C Rx4 p6.2 (zd tX12_isMay 10 rfl) (by decide) h (fun h => ?_) (fun h => ?_)
    · refine z_iconst C (zd tX12_isMay 13 rfl) ?_
      obtain ⟨rfl, rfl⟩ := zpi h
      exact ret.1 _ _ _ _ ⟨p6.1, (zR_c 0 rfl)⟩ rfl rfl (by decide) (zd tX12_isMay 14 rfl)
    · refine z_iconst C (zd tX12_isMay 11 rfl) ?_
      refine z_goto (tgt := 52) C (zd tX12_isMay 12 rfl) (by decide) ?_
      obtain ⟨rfl, rfl⟩ := zpi h
      exact ret.1 _ _ _ _ ⟨p6.1, (zR_c 1 rfl)⟩ rfl rfl (by decide) (zd tX12_isMay 14 rfl)
  rw [if_neg c6_0] at h
  by_cases c6_1 : r2 = 1
  · rw [if_pos c6_1] at h
    refine z_tblIn (tgt := 53) C p3.2 c6_1 (zd tX12_isMay 4 rfl) (by decide) (by decide) rfl (by decide) ?_
    refine z_iconst C (zd tX12_isMay 15 rfl) ?_
    obtain ⟨rfl, rfl⟩ := zpi h
    exact ret.1 _ _ _ _ ⟨p3.1, (zR_c 0 rfl)⟩ rfl rfl (by decide) (zd tX12_isMay 16 rfl)
  rw [if_neg c6_1] at h
  by_cases c6_2 : r2 = 2
  · rw [if_pos c6_2] at h
    refine z_tblIn (tgt := 55) C p3.2 c6_2 (zd tX12_isMay 4 rfl) (by decide) (by decide) rfl (by decide) ?_
    refine z_iload_n C (zd tX12_isMay 17 rfl) rfl ?_
    refine z_bipush C (by decide) (zd tX12_isMay 18 rfl) ?_
    refine z_irem C Rx3 (by decide) (zR_c 7 rfl) (zd tX12_isMay 19 rfl) ?_
    refine z_bipush C (by decide) (zd tX12_isMay 20 rfl) ?_
    refine z_icmp_ne (tgt := 78) C (zR_mod (by decide) (zR_c 7 rfl)) (zR_c 6 rfl) (zd tX12_isMay 21 rfl) (by decide) h (fun h => ?_) (fun h => ?_)
    · refine z_iconst C (zd tX12_isMay 29 rfl) ?_
      obtain ⟨rfl, rfl⟩ := zpi h
      exact ret.1 _ _ _ _ ⟨p3.1, (zR_c 0 rfl)⟩ rfl rfl (by decide) (zd tX12_isMay 30 rfl)
    · refine z_iload C (zd tX12_isMay 22 rfl) rfl ?_
      refine z_bipush C (by decide) (zd tX12_isMay 23 rfl) ?_
      refine z_iand C (zd tX12_isMay 24 rfl) ?_
      refine z_bipush C (by decide) (zd tX12_isMay 25 rfl) ?_
      refine z_icmp_ne (tgt := 78) C (zR_and _ _) (zR_c 63 rfl) (zd tX12_isMay 26 rfl) (by decide) h (fun h => ?_) (fun h => ?_)
      · refine z_iconst C (zd tX12_isMay 29 rfl) ?_
        obtain ⟨rfl, rfl⟩ := zpi h
        exact ret.1 _ _ _ _ ⟨p3.1, (zR_c 0 rfl)⟩ rfl rfl (by decide) (zd tX12_isMay 30 rfl)
      · refine z_iconst C (zd tX12_isMay 27 rfl) ?_
        refine z_goto (tgt := 79) C (zd tX12_isMay 28 rfl) (by decide) ?_
        obtain ⟨rfl, rfl⟩ := zpi h
        exact ret.1 _ _ _ _ ⟨p3.1, (zR_c 1 rfl)⟩ rfl rfl (by decide) (zd tX12_isMay 30 rfl)
  rw [if_neg c6_2] at h
  by_cases c6_3 : r2 = 3
  · rw [if_pos c6_3] at h
    refine z_tblIn (tgt := 80) C p3.2 c6_3 (zd tX12_isMay 4 rfl) (by decide) (by decide) rfl (by decide) ?_
    refine z_aload_n C (zd tX12_isMay 31 rfl) rfl ?_
    refine z_iload_n C (zd tX12_isMay 32 rfl) rfl ?_
    refine z_aload_n C (zd tX12_isMay 33 rfl) rfl ?_
    refine z_iload_n C (zd tX12_isMay 34 rfl) rfl ?_
    obtain ⟨v7, r8, cv7, h⟩ := zcl_some h
    refine zc_V C ho hz hRm (qX12_hourOf _ _ _ _ Rx2 p3.1 cv7) (lg_137 ho) (by decide) rfl (zgV zwd_1287 zwd_1289 zws_66 zwd_13 zwd_1290) rfl pX12_hourOf rfl ⟨rfl, rfl⟩ ⟨Nat.le_of_ble_eq_true rfl, Nat.le_of_ble_eq_true rfl⟩ [zi x1, zr 137] rfl (Nat.le_of_ble_eq_true rfl) (zd tX12_isMay 35 rfl) [zi r8, zi x1, zr 137] rfl (fun p9 => ?_)
    obtain ⟨v10, r11, cv10, h⟩ := zcl_some h
    refine zc_V C ho hz hRm (qX12_isNight _ _ _ _ Rx1 p9.2 p9.1 cv10) (lg_137 ho) (by decide) rfl (zgV zwd_1291 zwd_1293 zws_67 zwd_13 zwd_1294) rfl pX12_isNight rfl ⟨rfl, rfl⟩ ⟨Nat.le_of_ble_eq_true rfl, Nat.le_of_ble_eq_true rfl⟩ [] rfl (Nat.le_of_ble_eq_true rfl) (zd tX12_isMay 36 rfl) [zi r11] rfl (fun p12 => ?_)
    obtain ⟨q13, h⟩ := zck_some h
    obtain ⟨rfl, rfl⟩ := zpi h
    exact ret.1 _ _ _ _ ⟨p12.1, p12.2⟩ rfl rfl (zbool_n q13) (zd tX12_isMay 37 rfl)
  rw [if_neg c6_3] at h
  refine z_tblOut (tgt := 91) C p3.2 (by omega) (zd tX12_isMay 4 rfl) (by decide) ?_
  refine z_aload_n C (zd tX12_isMay 38 rfl) rfl ?_
  refine gl_12_10 (t := 139) C (lg_137 ho) zic_12 (zm zwd_1000) (vl_12_10 ho p3.1 (lg_137 ho)) (zd tX12_isMay 39 rfl) ?_
  refine z_bipush C (by decide) (zd tX12_isMay 40 rfl) ?_
  obtain ⟨q14, h⟩ := zck_some h
  refine za_iald C (lg_139 ho) rfl (by decide) q14 (zd tX12_isMay 41 rfl) ?_
  refine z_iload_n C (zd tX12_isMay 42 rfl) rfl ?_
  refine z_ishr C (zd tX12_isMay 43 rfl) ?_
  refine z_iconst C (zd tX12_isMay 44 rfl) ?_
  refine z_iand C (zd tX12_isMay 45 rfl) ?_
  refine z_iconst C (zd tX12_isMay 46 rfl) ?_
  refine z_icmp_ne (tgt := 110) C (zR_and _ _) (zR_c 1 rfl) (zd tX12_isMay 47 rfl) (by decide) h (fun h => ?_) (fun h => ?_)
  · refine z_iconst C (zd tX12_isMay 50 rfl) ?_
    obtain ⟨rfl, rfl⟩ := zpi h
    exact ret.1 _ _ _ _ ⟨p3.1, (zR_c 0 rfl)⟩ rfl rfl (by decide) (zd tX12_isMay 51 rfl)
  · refine z_iconst C (zd tX12_isMay 48 rfl) ?_
    refine z_goto (tgt := 111) C (zd tX12_isMay 49 rfl) (by decide) ?_
    obtain ⟨rfl, rfl⟩ := zpi h
    exact ret.1 _ _ _ _ ⟨p3.1, (zR_c 1 rfl)⟩ rfl rfl (by decide) (zd tX12_isMay 51 rfl)
noncomputable def vsX12_laysQuarters : List Cond := .code yX12_laysQuarters cX12_laysQuarters 8 none :: zbig
abbrev rmX12_laysQuarters : Room := { frames := 4, cells := 0, slots := 0, locals := 90 }
theorem pX12_laysQuarters : yX12_laysQuarters.cls = RX12 ∧ yX12_laysQuarters.cls ≠ "java/lang/invoke/MethodHandle" ∧ yX12_laysQuarters.cls ≠ "java/lang/invoke/VarHandle" ∧ (parseMethodDescriptor yX12_laysQuarters.desc).map (fun d => d.parameters.length) = some 1 := by decide +kernel
set_option maxRecDepth 100000 in
set_option maxHeartbeats 4000000 in
theorem bX12_laysQuarters_L107 {E : zE} (C : zC E 24 cX12_laysQuarters RX12 vsX12_laysQuarters) (hN : zEN E = 8) (ho : zEo E = 137) (hz : zEz E = False) (hRm : zER E = rmX12_laysQuarters) : ∀ (fu : Nat) (v : zHp) (x1 : Int) (x2 : Int) (x3 : Int) (x4 : Int) (x5 : Int) (x6 : Int) (x7 : Int) (res : (zHp × (Int))), fX12_laysQuarters_L107 fu v x1 x2 x3 x4 x5 x6 x7 = some res → zV 137 24 v → zR x1 → zR x2 → zR x3 → zR x4 → zR x5 → zR x6 → zR x7 → (∀ (w : zHp) (q : Int), res = (w, q) → zV 137 24 w → True → zX E 0 0 24 w 158 [some (zr 137), some (zi x1), some (zi x2), some (zi x3), some (zi x4), some (zi x5), none, none] []) → zX E 0 0 24 v 107 [some (zr 137), some (zi x1), some (zi x2), some (zi x3), some (zi x4), some (zi x5), some (zi x6), some (zi x7)] [] := by
  intro fu
  induction fu with
  | zero =>
    intro v _ _ _ _ _ _ _ res h
    cases h
  | succ fu ih =>
    intro v x1 x2 x3 x4 x5 x6 x7 res h hv Rx1 Rx2 Rx3 Rx4 Rx5 Rx6 Rx7 K1
    rw [fX12_laysQuarters_L107.eq_2] at h
    refine z_iload C (zd tX12_laysQuarters 63 rfl) rfl ?_
    refine z_aload_n C (zd tX12_laysQuarters 64 rfl) rfl ?_
    obtain ⟨v15, r16, cv15, h⟩ := zcl_some h
    refine zc_V C ho hz hRm (qX12_premiums _ _ _ _ hv cv15) (lg_137 ho) (by decide) rfl (zgV zwd_1173 zwd_1175 zws_46 zwd_13 zwd_1176) rfl pX12_premiums rfl ⟨rfl, rfl⟩ ⟨Nat.le_of_ble_eq_true rfl, Nat.le_of_ble_eq_true rfl⟩ [zi x7] rfl (Nat.le_of_ble_eq_true rfl) (zd tX12_laysQuarters 65 rfl) [zi r16, zi x7] rfl (fun p17 => ?_)
    refine z_icmp_ge (tgt := 158) C Rx7 p17.2 (zd tX12_laysQuarters 66 rfl) (by decide) h (fun h => ?_) (fun h => ?_)
    · refine z_sub (lo' := [some (zr 137), some (zi x1), some (zi x2), some (zi x3), some (zi x4), some (zi x5), none, none]) (zsub_s (zsub_s (zsub_s (zsub_s (zsub_s (zsub_s (zsub_n (zsub_n zsub_0)))))))) ?_
      exact K1 _ _ (Option.some.inj h).symm p17.1 trivial
    · refine z_aload_n C (zd tX12_laysQuarters 67 rfl) rfl ?_
      refine gl_12_25 (t := 150) C (lg_137 ho) zic_12 (zm zwd_1015) (vl_12_25 ho p17.1 (lg_137 ho)) (zd tX12_laysQuarters 68 rfl) ?_
      refine z_aload_n C (zd tX12_laysQuarters 69 rfl) rfl ?_
      refine gf_12_23 C (lg_137 ho) zic_12 (zm zwd_1013) (zd tX12_laysQuarters 70 rfl) ?_
      refine z_dup2 C (zd tX12_laysQuarters 71 rfl) ?_
      obtain ⟨q18, h⟩ := zck_some h
      refine za_iald C (lg_150 ho) rfl (by decide) q18 (zd tX12_laysQuarters 72 rfl) ?_
      refine z_aload_n C (zd tX12_laysQuarters 73 rfl) rfl ?_
      refine z_iload C (zd tX12_laysQuarters 74 rfl) rfl ?_
      refine z_iload C (zd tX12_laysQuarters 75 rfl) rfl ?_
      refine z_iload C (zd tX12_laysQuarters 76 rfl) rfl ?_
      refine z_iload C (zd tX12_laysQuarters 77 rfl) rfl ?_
      refine z_iload_n C (zd tX12_laysQuarters 78 rfl) rfl ?_
      obtain ⟨v19, r20, cv19, h⟩ := zcl_some h
      refine zc_V C ho hz hRm (qX12_isMay _ _ _ _ Rx7 Rx5 Rx6 Rx4 Rx2 p17.1 cv19) (lg_137 ho) (by decide) rfl (zgV zwd_1283 zwd_1285 zws_65 zwd_13 zwd_1286) rfl pX12_isMay rfl ⟨rfl, rfl⟩ ⟨Nat.le_of_ble_eq_true rfl, Nat.le_of_ble_eq_true rfl⟩ [zi (v15 150 (v15 137 23)), zi (v15 137 23), zr 150] rfl (Nat.le_of_ble_eq_true rfl) (zd tX12_laysQuarters 79 rfl) [zi r20, zi (v15 150 (v15 137 23)), zi (v15 137 23), zr 150] rfl (fun p21 => ?_)
      refine z_if_eq (tgt := 149) C p21.2 (zd tX12_laysQuarters 80 rfl) (by decide) h (fun h => ?_) (fun h => ?_)
      · refine z_iconst C (zd tX12_laysQuarters 85 rfl) ?_
        refine z_ior C (zd tX12_laysQuarters 86 rfl) ?_
        obtain ⟨q22, h⟩ := zck_some h
        obtain ⟨v23, ev23, h⟩ := zb_some h
        have hv23 : zV 137 24 v23 := by rw [ev23]; exact p21.1.st (zR_or _ _) (lg_150 ho).1 (Or.inr rfl)
        refine za_iast C (lg_150 ho) rfl (by decide) q22 ev23 (zd tX12_laysQuarters 87 rfl) ?_
        obtain ⟨t24, et24, Rt24, h⟩ := zn_some h
        refine z_iincE C (zd tX12_laysQuarters 88 rfl) (by rw [hN]; decide) rfl et24 ?_
        refine z_goto (tgt := 107) C (zd tX12_laysQuarters 89 rfl) (by decide) ?_
        refine z_sub (lo' := [some (zr 137), some (zi x1), some (zi x2), some (zi x3), some (zi x4), some (zi x5), some (zi x6), some (zi t24)]) (zsub_s (zsub_s (zsub_s (zsub_s (zsub_s (zsub_s (zsub_s (zsub_s zsub_0)))))))) ?_
        exact ih v23 x1 x2 x3 x4 x5 x6 t24 _ h hv23 Rx1 Rx2 Rx3 Rx4 Rx5 Rx6 Rt24 K1
      · refine z_iconst C (zd tX12_laysQuarters 81 rfl) ?_
        refine z_iload C (zd tX12_laysQuarters 82 rfl) rfl ?_
        refine z_ishl C (zd tX12_laysQuarters 83 rfl) ?_
        refine z_goto (tgt := 150) C (zd tX12_laysQuarters 84 rfl) (by decide) ?_
        refine z_ior C (zd tX12_laysQuarters 86 rfl) ?_
        obtain ⟨q25, h⟩ := zck_some h
        obtain ⟨v26, ev26, h⟩ := zb_some h
        have hv26 : zV 137 24 v26 := by rw [ev26]; exact p21.1.st (zR_or _ _) (lg_150 ho).1 (Or.inr rfl)
        refine za_iast C (lg_150 ho) rfl (by decide) q25 ev26 (zd tX12_laysQuarters 87 rfl) ?_
        obtain ⟨t27, et27, Rt27, h⟩ := zn_some h
        refine z_iincE C (zd tX12_laysQuarters 88 rfl) (by rw [hN]; decide) rfl et27 ?_
        refine z_goto (tgt := 107) C (zd tX12_laysQuarters 89 rfl) (by decide) ?_
        refine z_sub (lo' := [some (zr 137), some (zi x1), some (zi x2), some (zi x3), some (zi x4), some (zi x5), some (zi x6), some (zi t27)]) (zsub_s (zsub_s (zsub_s (zsub_s (zsub_s (zsub_s (zsub_s (zsub_s zsub_0)))))))) ?_
        exact ih v26 x1 x2 x3 x4 x5 x6 t27 _ h hv26 Rx1 Rx2 Rx3 Rx4 Rx5 Rx6 Rt27 K1
set_option maxRecDepth 100000 in
set_option maxHeartbeats 4000000 in
theorem jX12_laysQuarters_J68 {E : zE} (C : zC E 24 cX12_laysQuarters RX12 vsX12_laysQuarters) (hN : zEN E = 8) (ho : zEo E = 137) (hz : zEz E = False) (hRm : zER E = rmX12_laysQuarters) (rc : zHp → Int → Int → Int → Int → Int → Option (zHp × (Int))) (res : (zHp × (Int))) (v : zHp) (x1 : Int) (x2 : Int) (x5 : Int) (x6 : Int) (s0 : Int) (K1 : ∀ (w : zHp) (q : Int), res = (w, q) → zV 137 24 w → True → zX E 0 0 24 w 174 [none, none, none, none, none, none, none, none] []) (hrc0 : True) (h : fX12_laysQuarters_J68 rc v x1 x2 x5 x6 s0 = some res) (hv : zV 137 24 v) (Rx1 : zR x1) (Rx2 : zR x2) (Rx5 : zR x5) (Rx6 : zR x6) (Rs0 : zR s0) (hrc : ∀ (v : zHp) (z2 : Int) (z3 : Int) (z4 : Int) (z5 : Int), rc v x1 z2 z3 z4 z5 = some res → zV 137 24 v → zR z2 → zR z3 → zR z4 → zR z5 → zX E 0 0 24 v 15 [some (zr 137), some (zi x1), some (zi z2), some (zi z3), some (zi z4), some (zi z5), none, none] []): zX E 0 0 24 v 68 [some (zr 137), some (zi x1), some (zi x2), none, none, some (zi x5), some (zi x6), none] [zi s0] := by
  unfold fX12_laysQuarters_J68 at h
  refine z_istore C (zd tX12_laysQuarters 38 rfl) (by rw [hN]; decide) ?_
  refine z_iload C (zd tX12_laysQuarters 39 rfl) rfl ?_
  refine z_istore_n C (zd tX12_laysQuarters 40 rfl) (by rw [hN]; decide) ?_
  refine z_iload_n C (zd tX12_laysQuarters 41 rfl) rfl ?_
  refine z_iconst C (zd tX12_laysQuarters 42 rfl) ?_
  refine z_iload C (zd tX12_laysQuarters 43 rfl) rfl ?_
  refine z_bipush C (by decide) (zd tX12_laysQuarters 44 rfl) ?_
  refine z_irem C Rx6 (by decide) (zR_c 7 rfl) (zd tX12_laysQuarters 45 rfl) ?_
  refine z_ishl C (zd tX12_laysQuarters 46 rfl) ?_
  refine z_ior C (zd tX12_laysQuarters 47 rfl) ?_
  refine z_istore_n C (zd tX12_laysQuarters 48 rfl) (by rw [hN]; decide) ?_
  refine z_aload_n C (zd tX12_laysQuarters 49 rfl) rfl ?_
  refine gl_12_24 (t := 149) C (lg_137 ho) zic_12 (zm zwd_1014) (vl_12_24 ho hv (lg_137 ho)) (zd tX12_laysQuarters 50 rfl) ?_
  refine z_aload_n C (zd tX12_laysQuarters 51 rfl) rfl ?_
  refine gf_12_23 C (lg_137 ho) zic_12 (zm zwd_1013) (zd tX12_laysQuarters 52 rfl) ?_
  refine z_iload C (zd tX12_laysQuarters 53 rfl) rfl ?_
  obtain ⟨q11, h⟩ := zck_some h
  obtain ⟨v12, ev12, h⟩ := zb_some h
  have hv12 : zV 137 24 v12 := by rw [ev12]; exact hv.st Rx5 (lg_149 ho).1 (Or.inr rfl)
  refine za_iast C (lg_149 ho) rfl (by decide) q11 ev12 (zd tX12_laysQuarters 54 rfl) ?_
  refine z_aload_n C (zd tX12_laysQuarters 55 rfl) rfl ?_
  refine gl_12_25 (t := 150) C (lg_137 ho) zic_12 (zm zwd_1015) (vl_12_25 ho hv12 (lg_137 ho)) (zd tX12_laysQuarters 56 rfl) ?_
  refine z_aload_n C (zd tX12_laysQuarters 57 rfl) rfl ?_
  refine gf_12_23 C (lg_137 ho) zic_12 (zm zwd_1013) (zd tX12_laysQuarters 58 rfl) ?_
  refine z_iconst C (zd tX12_laysQuarters 59 rfl) ?_
  obtain ⟨q13, h⟩ := zck_some h
  obtain ⟨v14, ev14, h⟩ := zb_some h
  have hv14 : zV 137 24 v14 := by rw [ev14]; exact hv12.st (zR_c 0 rfl) (lg_150 ho).1 (Or.inr rfl)
  refine za_iast C (lg_150 ho) rfl (by decide) q13 ev14 (zd tX12_laysQuarters 60 rfl) ?_
  refine z_iconst C (zd tX12_laysQuarters 61 rfl) ?_
  refine z_istore C (zd tX12_laysQuarters 62 rfl) (by rw [hN]; decide) ?_
  refine z_sub (lo' := [some (zr 137), some (zi x1), some (zi (zor x2 (zshl 1 (Int.tmod x6 7)))), some (zi x6), some (zi s0), some (zi x5), some (zi x6), some (zi 0)]) (zsub_s (zsub_s (zsub_s (zsub_s (zsub_s (zsub_s (zsub_s (zsub_s zsub_0)))))))) ?_
  obtain ⟨v28, w29, lv28, h⟩ := zl_some h
  refine bX12_laysQuarters_L107 C hN ho hz hRm zFU v14 x1 (zor x2 (zshl 1 (Int.tmod x6 7))) x6 s0 x5 x6 0 _ lv28 hv14 Rx1 (zR_or _ _) Rx6 Rs0 Rx5 Rx6 (zR_c 0 rfl) (fun w1 q1 e1 hv28 Rw29 => ?_)
  obtain ⟨rfl, rfl⟩ := zpp e1
  refine z_aload_n C (zd tX12_laysQuarters 90 rfl) rfl ?_
  refine z_dup C (zd tX12_laysQuarters 91 rfl) ?_
  refine gf_12_23 C (lg_137 ho) zic_12 (zm zwd_1013) (zd tX12_laysQuarters 92 rfl) ?_
  refine z_iconst C (zd tX12_laysQuarters 93 rfl) ?_
  refine z_iadd C (zd tX12_laysQuarters 94 rfl) ?_
  obtain ⟨t30, et30, Rt30, h⟩ := zn_some h
  refine z_n0 (congrArg zI et30.symm) ?_
  obtain ⟨v31, ev31, h⟩ := zb_some h
  have hv31 : zV 137 24 v31 := by rw [ev31]; exact hv28.st Rt30 (lg_137 ho).1 (Or.inr rfl)
  refine pf_12_23 C (lg_137 ho) zic_12 (zm zwd_1013) ev31 (zd tX12_laysQuarters 95 rfl) ?_
  obtain ⟨t32, et32, Rt32, h⟩ := zn_some h
  refine z_iincE C (zd tX12_laysQuarters 96 rfl) (by rw [hN]; decide) rfl et32 ?_
  refine z_goto (tgt := 15) C (zd tX12_laysQuarters 97 rfl) (by decide) ?_
  refine z_sub (lo' := [some (zr 137), some (zi x1), some (zi (zor x2 (zshl 1 (Int.tmod x6 7)))), some (zi x6), some (zi s0), some (zi t32), none, none]) (zsub_s (zsub_s (zsub_s (zsub_s (zsub_s (zsub_s (zsub_n (zsub_n zsub_0)))))))) ?_
  exact hrc v31 (zor x2 (zshl 1 (Int.tmod x6 7))) x6 s0 t32 h hv31 (zR_or _ _) Rx6 Rs0 Rt32
set_option maxRecDepth 100000 in
set_option maxHeartbeats 4000000 in
theorem bX12_laysQuarters_L15 {E : zE} (C : zC E 24 cX12_laysQuarters RX12 vsX12_laysQuarters) (hN : zEN E = 8) (ho : zEo E = 137) (hz : zEz E = False) (hRm : zER E = rmX12_laysQuarters) : ∀ (fu : Nat) (v : zHp) (x1 : Int) (x2 : Int) (x3 : Int) (x4 : Int) (x5 : Int) (res : (zHp × (Int))), fX12_laysQuarters_L15 fu v x1 x2 x3 x4 x5 = some res → zV 137 24 v → zR x1 → zR x2 → zR x3 → zR x4 → zR x5 → (∀ (w : zHp) (q : Int), res = (w, q) → zV 137 24 w → True → zX E 0 0 24 w 174 [none, none, none, none, none, none, none, none] []) → zX E 0 0 24 v 15 [some (zr 137), some (zi x1), some (zi x2), some (zi x3), some (zi x4), some (zi x5), none, none] [] := by
  intro fu
  induction fu with
  | zero =>
    intro v _ _ _ _ _ res h
    cases h
  | succ fu ih =>
    intro v x1 x2 x3 x4 x5 res h hv Rx1 Rx2 Rx3 Rx4 Rx5 K1
    rw [fX12_laysQuarters_L15.eq_2] at h
    refine z_iload C (zd tX12_laysQuarters 11 rfl) rfl ?_
    refine z_sipush C (by decide) (zd tX12_laysQuarters 12 rfl) ?_
    refine z_icmp_ge (tgt := 174) C Rx5 (zR_c 2720 rfl) (zd tX12_laysQuarters 13 rfl) (by decide) h (fun h => ?_) (fun h => ?_)
    · refine z_sub (lo' := [none, none, none, none, none, none, none, none]) (zsub_n (zsub_n (zsub_n (zsub_n (zsub_n (zsub_n (zsub_n (zsub_n zsub_0)))))))) ?_
      exact K1 _ _ (Option.some.inj h).symm hv trivial
    · refine z_aload_n C (zd tX12_laysQuarters 14 rfl) rfl ?_
      refine gl_12_22 (t := 148) C (lg_137 ho) zic_12 (zm zwd_1012) (vl_12_22 ho hv (lg_137 ho)) (zd tX12_laysQuarters 15 rfl) ?_
      refine z_iload C (zd tX12_laysQuarters 16 rfl) rfl ?_
      obtain ⟨q2, h⟩ := zck_some h
      refine za_zald C (lg_148 ho) rfl (by decide) q2 (zd tX12_laysQuarters 17 rfl) ?_
      refine z_if_eq (tgt := 168) C (hv.1 _ _) (zd tX12_laysQuarters 18 rfl) (by decide) h (fun h => ?_) (fun h => ?_)
      · obtain ⟨t3, et3, Rt3, h⟩ := zn_some h
        refine z_iincE C (zd tX12_laysQuarters 96 rfl) (by rw [hN]; decide) rfl et3 ?_
        refine z_goto (tgt := 15) C (zd tX12_laysQuarters 97 rfl) (by decide) ?_
        refine z_sub (lo' := [some (zr 137), some (zi x1), some (zi x2), some (zi x3), some (zi x4), some (zi t3), none, none]) (zsub_s (zsub_s (zsub_s (zsub_s (zsub_s (zsub_s (zsub_n (zsub_n zsub_0)))))))) ?_
        exact ih v x1 x2 x3 x4 t3 _ h hv Rx1 Rx2 Rx3 Rx4 Rt3 K1
      · refine z_aload_n C (zd tX12_laysQuarters 19 rfl) rfl ?_
        refine z_iload C (zd tX12_laysQuarters 20 rfl) rfl ?_
        obtain ⟨v4, r5, cv4, h⟩ := zcl_some h
        refine zc_V C ho hz hRm (qX12_dayOf _ _ _ _ Rx5 hv cv4) (lg_137 ho) (by decide) rfl (zgV zwd_1271 zwd_1273 zws_62 zwd_13 zwd_1274) rfl pX12_dayOf rfl ⟨rfl, rfl⟩ ⟨Nat.le_of_ble_eq_true rfl, Nat.le_of_ble_eq_true rfl⟩ [] rfl (Nat.le_of_ble_eq_true rfl) (zd tX12_laysQuarters 21 rfl) [zi r5] rfl (fun p6 => ?_)
        refine z_bipush C (by decide) (zd tX12_laysQuarters 22 rfl) ?_
        refine z_idiv C p6.2 (by decide) (zR_c 7 rfl) (zd tX12_laysQuarters 23 rfl) ?_
        refine z_iload_n C (zd tX12_laysQuarters 24 rfl) rfl ?_
        refine z_icmp_ne (tgt := 168) C (zR_div p6.2 (by decide)) Rx1 (zd tX12_laysQuarters 25 rfl) (by decide) h (fun h => ?_) (fun h => ?_)
        · obtain ⟨t7, et7, Rt7, h⟩ := zn_some h
          refine z_iincE C (zd tX12_laysQuarters 96 rfl) (by rw [hN]; decide) rfl et7 ?_
          refine z_goto (tgt := 15) C (zd tX12_laysQuarters 97 rfl) (by decide) ?_
          refine z_sub (lo' := [some (zr 137), some (zi x1), some (zi x2), some (zi x3), some (zi x4), some (zi t7), none, none]) (zsub_s (zsub_s (zsub_s (zsub_s (zsub_s (zsub_s (zsub_n (zsub_n zsub_0)))))))) ?_
          exact ih v4 x1 x2 x3 x4 t7 _ h p6.1 Rx1 Rx2 Rx3 Rx4 Rt7 K1
        · refine z_aload_n C (zd tX12_laysQuarters 26 rfl) rfl ?_
          refine z_iload C (zd tX12_laysQuarters 27 rfl) rfl ?_
          obtain ⟨v8, r9, cv8, h⟩ := zcl_some h
          refine zc_V C ho hz hRm (qX12_dayOf _ _ _ _ Rx5 p6.1 cv8) (lg_137 ho) (by decide) rfl (zgV zwd_1271 zwd_1273 zws_62 zwd_13 zwd_1274) rfl pX12_dayOf rfl ⟨rfl, rfl⟩ ⟨Nat.le_of_ble_eq_true rfl, Nat.le_of_ble_eq_true rfl⟩ [] rfl (Nat.le_of_ble_eq_true rfl) (zd tX12_laysQuarters 28 rfl) [zi r9] rfl (fun p10 => ?_)
          refine z_istore C (zd tX12_laysQuarters 29 rfl) (by rw [hN]; decide) ?_
          refine z_iload C (zd tX12_laysQuarters 30 rfl) rfl ?_
          refine z_iload_n C (zd tX12_laysQuarters 31 rfl) rfl ?_
          refine z_icmp_ne (tgt := 67) C p10.2 Rx3 (zd tX12_laysQuarters 32 rfl) (by decide) h (fun h => ?_) (fun h => ?_)
          · refine z_iconst C (zd tX12_laysQuarters 37 rfl) ?_
            refine z_sub (lo' := [some (zr 137), some (zi x1), some (zi x2), none, none, some (zi x5), some (zi r9), none]) (zsub_s (zsub_s (zsub_s (zsub_n (zsub_n (zsub_s (zsub_s (zsub_n zsub_0)))))))) ?_
            exact jX12_laysQuarters_J68 C hN ho hz hRm _ _ v8 x1 x2 x5 r9 0 K1 trivial h p10.1 Rx1 Rx2 Rx5 p10.2 (zR_c 0 rfl) (fun w z2 z3 z4 z5 hw hvw y2 y3 y4 y5 => ih w x1 z2 z3 z4 z5 _ hw hvw Rx1 y2 y3 y4 y5 K1)
          · refine z_iload C (zd tX12_laysQuarters 33 rfl) rfl ?_
            refine z_iconst C (zd tX12_laysQuarters 34 rfl) ?_
            refine z_iadd C (zd tX12_laysQuarters 35 rfl) ?_
            refine z_goto (tgt := 68) C (zd tX12_laysQuarters 36 rfl) (by decide) ?_
            obtain ⟨t33, et33, Rt33, h⟩ := zn_some h
            refine z_nk 0 (congrArg zI et33.symm) rfl ?_
            refine z_sub (lo' := [some (zr 137), some (zi x1), some (zi x2), none, none, some (zi x5), some (zi r9), none]) (zsub_s (zsub_s (zsub_s (zsub_n (zsub_n (zsub_s (zsub_s (zsub_n zsub_0)))))))) ?_
            exact jX12_laysQuarters_J68 C hN ho hz hRm _ _ v8 x1 x2 x5 r9 t33 K1 trivial h p10.1 Rx1 Rx2 Rx5 p10.2 Rt33 (fun w z2 z3 z4 z5 hw hvw y2 y3 y4 y5 => ih w x1 z2 z3 z4 z5 _ hw hvw Rx1 y2 y3 y4 y5 K1)
set_option maxRecDepth 100000 in
set_option maxHeartbeats 4000000 in
theorem qX12_laysQuarters (l : Launch) (D : va_G) (ids : Nat → ClassId) (b : Nat) {x1 : Int} (Rx1 : zR x1) {v v' : zHp} {r' : Int} (hv : zV 137 24 v) (h : fX12_laysQuarters v x1 = some (v', r')) : zCT l yX12_laysQuarters vsX12_laysQuarters rmX12_laysQuarters D ids b 137 False 24 [zr 137, zi x1] v 24 (zV 137 24 v') none v' 0 0 := by
  refine zMet (own := RX12) (by decide +kernel) (show vsX12_laysQuarters = _ from rfl) (Nat.le_of_ble_eq_true rfl) rfl ?_
  intro E hl hRm hD hids hb ho hz hN C hname ret
  subst hl hD hids hb
  unfold fX12_laysQuarters at h
  refine z_aload_n C (zd tX12_laysQuarters 0 rfl) rfl ?_
  refine z_iconst C (zd tX12_laysQuarters 1 rfl) ?_
  obtain ⟨v1, ev1, h⟩ := zb_some h
  have hv1 : zV 137 24 v1 := by rw [ev1]; exact hv.st (zR_c 0 rfl) (lg_137 ho).1 (Or.inr rfl)
  refine pf_12_23 C (lg_137 ho) zic_12 (zm zwd_1013) ev1 (zd tX12_laysQuarters 2 rfl) ?_
  refine z_iconst C (zd tX12_laysQuarters 3 rfl) ?_
  refine z_istore_n C (zd tX12_laysQuarters 4 rfl) (by rw [hN]; decide) ?_
  refine z_iconst C (zd tX12_laysQuarters 5 rfl) ?_
  refine z_istore_n C (zd tX12_laysQuarters 6 rfl) (by rw [hN]; decide) ?_
  refine z_iconst C (zd tX12_laysQuarters 7 rfl) ?_
  refine z_istore C (zd tX12_laysQuarters 8 rfl) (by rw [hN]; decide) ?_
  refine z_iconst C (zd tX12_laysQuarters 9 rfl) ?_
  refine z_istore C (zd tX12_laysQuarters 10 rfl) (by rw [hN]; decide) ?_
  refine z_sub (lo' := [some (zr 137), some (zi x1), some (zi 0), some (zi (-1)), some (zi 0), some (zi 0), none, none]) (zsub_s (zsub_s (zsub_s (zsub_s (zsub_s (zsub_s (zsub_n (zsub_n zsub_0)))))))) ?_
  obtain ⟨v34, w35, lv34, h⟩ := zl_some h
  refine bX12_laysQuarters_L15 C hN ho hz hRm zFU v1 x1 0 (-1) 0 0 _ lv34 hv1 Rx1 (zR_c 0 rfl) (zR_c (-1) rfl) (zR_c 0 rfl) (zR_c 0 rfl) (fun w1 q1 e1 hv34 Rw35 => ?_)
  obtain ⟨rfl, rfl⟩ := zpp e1
  obtain ⟨rfl, rfl⟩ := zpi h
  exact ret.2.1 _ _ hv34 rfl rfl (zd tX12_laysQuarters 98 rfl)
noncomputable def vsX12_isOfDays : List Cond := .code yX12_isOfDays cX12_isOfDays 2 (some .boolean) :: zbig
abbrev rmX12_isOfDays : Room := { frames := 2, cells := 0, slots := 0, locals := 44 }
theorem pX12_isOfDays : yX12_isOfDays.cls = RX12 ∧ yX12_isOfDays.cls ≠ "java/lang/invoke/MethodHandle" ∧ yX12_isOfDays.cls ≠ "java/lang/invoke/VarHandle" ∧ (parseMethodDescriptor yX12_isOfDays.desc).map (fun d => d.parameters.length) = some 1 := by decide +kernel
set_option maxRecDepth 100000 in
set_option maxHeartbeats 4000000 in
theorem qX12_isOfDays (l : Launch) (D : va_G) (ids : Nat → ClassId) (b : Nat) {x1 : Int} (Rx1 : zR x1) {v v' : zHp} {r' : Int} (hv : zV 137 24 v) (h : fX12_isOfDays v x1 = some (v', r')) : zCT l yX12_isOfDays vsX12_isOfDays rmX12_isOfDays D ids b 137 False 24 [zr 137, zi x1] v 24 (zV 137 24 v' ∧ zR r') (some (zi r')) v' 0 0 := by
  refine zMet (own := RX12) (by decide +kernel) (show vsX12_isOfDays = _ from rfl) (Nat.le_of_ble_eq_true rfl) rfl ?_
  intro E hl hRm hD hids hb ho hz hN C hname ret
  subst hl hD hids hb
  unfold fX12_isOfDays at h
  refine z_aload_n C (zd tX12_isOfDays 0 rfl) rfl ?_
  refine z_bipush C (by decide) (zd tX12_isOfDays 1 rfl) ?_
  refine z_iload_n C (zd tX12_isOfDays 2 rfl) rfl ?_
  refine z_imul C (zd tX12_isOfDays 3 rfl) ?_
  obtain ⟨t1, et1, Rt1, h⟩ := zn_some h
  refine z_nk 0 (congrArg zI et1.symm) rfl ?_
  obtain ⟨v2, r3, cv2, h⟩ := zcl_some h
  refine zc_V C ho hz hRm (qX12_toldAt _ _ _ _ Rt1 hv cv2) (lg_137 ho) (by decide) rfl (zgV zwd_1198 zwd_1200 zws_50 zwd_13 zwd_1201) rfl pX12_toldAt rfl ⟨rfl, rfl⟩ ⟨Nat.le_of_ble_eq_true rfl, Nat.le_of_ble_eq_true rfl⟩ [] rfl (Nat.le_of_ble_eq_true rfl) (zd tX12_isOfDays 4 rfl) [zi r3] rfl (fun p4 => ?_)
  refine z_iconst C (zd tX12_isOfDays 5 rfl) ?_
  refine z_icmp_eq (tgt := 16) C p4.2 (zR_c (-1) rfl) (zd tX12_isOfDays 6 rfl) (by decide) h (fun h => ?_) (fun h => ?_)
  · refine z_iconst C (zd tX12_isOfDays 9 rfl) ?_
    obtain ⟨rfl, rfl⟩ := zpi h
    exact ret.1 _ _ _ _ ⟨p4.1, (zR_c 0 rfl)⟩ rfl rfl (by decide) (zd tX12_isOfDays 10 rfl)
  · refine z_iconst C (zd tX12_isOfDays 7 rfl) ?_
    refine z_goto (tgt := 17) C (zd tX12_isOfDays 8 rfl) (by decide) ?_
    obtain ⟨rfl, rfl⟩ := zpi h
    exact ret.1 _ _ _ _ ⟨p4.1, (zR_c 1 rfl)⟩ rfl rfl (by decide) (zd tX12_isOfDays 10 rfl)
noncomputable def vsX12_isOfSpan : List Cond := .code yX12_isOfSpan cX12_isOfSpan 6 (some .boolean) :: zbig
abbrev rmX12_isOfSpan : Room := { frames := 3, cells := 0, slots := 0, locals := 65 }
theorem pX12_isOfSpan : yX12_isOfSpan.cls = RX12 ∧ yX12_isOfSpan.cls ≠ "java/lang/invoke/MethodHandle" ∧ yX12_isOfSpan.cls ≠ "java/lang/invoke/VarHandle" ∧ (parseMethodDescriptor yX12_isOfSpan.desc).map (fun d => d.parameters.length) = some 2 := by decide +kernel
set_option maxRecDepth 100000 in
set_option maxHeartbeats 4000000 in
theorem jX12_isOfSpan_J76 {E : zE} (C : zC E 24 cX12_isOfSpan RX12 vsX12_isOfSpan) (hN : zEN E = 6) (ho : zEo E = 137) (hz : zEz E = False) (hRm : zER E = rmX12_isOfSpan) {v' : zHp} {r' : Int} (ret : zRet E cX12_isOfSpan 0 0 24 (some .boolean) (zV 137 24 v' ∧ zR r') (some (zi r')) v') (v : zHp) (x2 : Int) (s0 : Int) (h : fX12_isOfSpan_J76 v x2 s0 = some (v', r')) (hv : zV 137 24 v) (Rx2 : zR x2) (Rs0 : zR s0) : zX E 0 0 24 v 76 [some (zr 137), none, some (zi x2), none, none, none] [zi s0] := by
  unfold fX12_isOfSpan_J76 at h
  refine z_istore C (zd tX12_isOfSpan 48 rfl) (by rw [hN]; decide) ?_
  refine z_iload C (zd tX12_isOfSpan 49 rfl) rfl ?_
  refine z_if_ne (tgt := 95) C Rs0 (zd tX12_isOfSpan 50 rfl) (by decide) h (fun h => ?_) (fun h => ?_)
  · refine z_iconst C (zd tX12_isOfSpan 57 rfl) ?_
    obtain ⟨rfl, rfl⟩ := zpi h
    exact ret.1 _ _ _ _ ⟨hv, (zR_c 0 rfl)⟩ rfl rfl (by decide) (zd tX12_isOfSpan 58 rfl)
  · refine z_aload_n C (zd tX12_isOfSpan 51 rfl) rfl ?_
    refine z_iload_n C (zd tX12_isOfSpan 52 rfl) rfl ?_
    obtain ⟨v7, r8, cv7, h⟩ := zcl_some h
    refine zc_V C ho hz hRm (qX12_isOfDays _ _ _ _ Rx2 hv cv7) (lg_137 ho) (by decide) rfl (zgV zwd_1259 zwd_1261 zws_60 zwd_13 zwd_1262) rfl pX12_isOfDays rfl ⟨rfl, rfl⟩ ⟨Nat.le_of_ble_eq_true rfl, Nat.le_of_ble_eq_true rfl⟩ [] rfl (Nat.le_of_ble_eq_true rfl) (zd tX12_isOfSpan 53 rfl) [zi r8] rfl (fun p9 => ?_)
    refine z_if_eq (tgt := 95) C p9.2 (zd tX12_isOfSpan 54 rfl) (by decide) h (fun h => ?_) (fun h => ?_)
    · refine z_iconst C (zd tX12_isOfSpan 57 rfl) ?_
      obtain ⟨rfl, rfl⟩ := zpi h
      exact ret.1 _ _ _ _ ⟨p9.1, (zR_c 0 rfl)⟩ rfl rfl (by decide) (zd tX12_isOfSpan 58 rfl)
    · refine z_iconst C (zd tX12_isOfSpan 55 rfl) ?_
      refine z_goto (tgt := 96) C (zd tX12_isOfSpan 56 rfl) (by decide) ?_
      obtain ⟨rfl, rfl⟩ := zpi h
      exact ret.1 _ _ _ _ ⟨p9.1, (zR_c 1 rfl)⟩ rfl rfl (by decide) (zd tX12_isOfSpan 58 rfl)
set_option maxRecDepth 100000 in
set_option maxHeartbeats 4000000 in
theorem jX12_isOfSpan_J75 {E : zE} (C : zC E 24 cX12_isOfSpan RX12 vsX12_isOfSpan) (hN : zEN E = 6) (ho : zEo E = 137) (hz : zEz E = False) (hRm : zER E = rmX12_isOfSpan) {v' : zHp} {r' : Int} (ret : zRet E cX12_isOfSpan 0 0 24 (some .boolean) (zV 137 24 v' ∧ zR r') (some (zi r')) v') (v : zHp) (x2 : Int) (h : fX12_isOfSpan_J75 v x2 = some (v', r')) (hv : zV 137 24 v) (Rx2 : zR x2) : zX E 0 0 24 v 75 [some (zr 137), none, some (zi x2), none, none, none] [] := by
  unfold fX12_isOfSpan_J75 at h
  refine z_iconst C (zd tX12_isOfSpan 47 rfl) ?_
  refine z_sub (lo' := [some (zr 137), none, some (zi x2), none, none, none]) (zsub_s (zsub_n (zsub_s (zsub_n (zsub_n (zsub_n zsub_0)))))) ?_
  exact jX12_isOfSpan_J76 C hN ho hz hRm ret v x2 0 h hv Rx2 (zR_c 0 rfl)
set_option maxRecDepth 100000 in
set_option maxHeartbeats 4000000 in
theorem qX12_isOfSpan (l : Launch) (D : va_G) (ids : Nat → ClassId) (b : Nat) {x1 : Int} (Rx1 : zR x1) {x2 : Int} (Rx2 : zR x2) {v v' : zHp} {r' : Int} (hv : zV 137 24 v) (h : fX12_isOfSpan v x1 x2 = some (v', r')) : zCT l yX12_isOfSpan vsX12_isOfSpan rmX12_isOfSpan D ids b 137 False 24 [zr 137, zi x1, zi x2] v 24 (zV 137 24 v' ∧ zR r') (some (zi r')) v' 0 0 := by
  refine zMet (own := RX12) (by decide +kernel) (show vsX12_isOfSpan = _ from rfl) (Nat.le_of_ble_eq_true rfl) rfl ?_
  intro E hl hRm hD hids hb ho hz hN C hname ret
  subst hl hD hids hb
  unfold fX12_isOfSpan at h
  refine z_iload_n C (zd tX12_isOfSpan 0 rfl) rfl ?_
  refine z_aload_n C (zd tX12_isOfSpan 1 rfl) rfl ?_
  refine gl_12_20 (t := 146) C (lg_137 ho) zic_12 (zm zwd_1010) (vl_12_20 ho hv (lg_137 ho)) (zd tX12_isOfSpan 2 rfl) ?_
  refine z_iload_n C (zd tX12_isOfSpan 3 rfl) rfl ?_
  obtain ⟨q1, h⟩ := zck_some h
  refine za_iald C (lg_146 ho) rfl (by decide) q1 (zd tX12_isOfSpan 4 rfl) ?_
  refine z_isub C (zd tX12_isOfSpan 5 rfl) ?_
  obtain ⟨t2, et2, Rt2, h⟩ := zn_some h
  refine z_n0 (congrArg zI et2.symm) ?_
  refine z_istore_n C (zd tX12_isOfSpan 6 rfl) (by rw [hN]; decide) ?_
  refine z_aload_n C (zd tX12_isOfSpan 7 rfl) rfl ?_
  refine gl_12_21 (t := 147) C (lg_137 ho) zic_12 (zm zwd_1011) (vl_12_21 ho hv (lg_137 ho)) (zd tX12_isOfSpan 8 rfl) ?_
  refine z_iload_n C (zd tX12_isOfSpan 9 rfl) rfl ?_
  obtain ⟨q3, h⟩ := zck_some h
  refine za_iald C (lg_147 ho) rfl (by decide) q3 (zd tX12_isOfSpan 10 rfl) ?_
  refine z_aload_n C (zd tX12_isOfSpan 11 rfl) rfl ?_
  refine gl_12_20 (t := 146) C (lg_137 ho) zic_12 (zm zwd_1010) (vl_12_20 ho hv (lg_137 ho)) (zd tX12_isOfSpan 12 rfl) ?_
  refine z_iload_n C (zd tX12_isOfSpan 13 rfl) rfl ?_
  obtain ⟨q4, h⟩ := zck_some h
  refine za_iald C (lg_146 ho) rfl (by decide) q4 (zd tX12_isOfSpan 14 rfl) ?_
  refine z_isub C (zd tX12_isOfSpan 15 rfl) ?_
  obtain ⟨t5, et5, Rt5, h⟩ := zn_some h
  refine z_n0 (congrArg zI et5.symm) ?_
  refine z_istore C (zd tX12_isOfSpan 16 rfl) (by rw [hN]; decide) ?_
  refine z_aload_n C (zd tX12_isOfSpan 17 rfl) rfl ?_
  refine gl_12_10 (t := 139) C (lg_137 ho) zic_12 (zm zwd_1000) (vl_12_10 ho hv (lg_137 ho)) (zd tX12_isOfSpan 18 rfl) ?_
  refine z_iconst C (zd tX12_isOfSpan 19 rfl) ?_
  obtain ⟨q6, h⟩ := zck_some h
  refine za_iald C (lg_139 ho) rfl (by decide) q6 (zd tX12_isOfSpan 20 rfl) ?_
  refine z_if_le (tgt := 75) C (hv.1 _ _) (zd tX12_isOfSpan 21 rfl) (by decide) h (fun h => ?_) (fun h => ?_)
  · refine z_sub (lo' := [some (zr 137), none, some (zi x2), none, none, none]) (zsub_s (zsub_n (zsub_s (zsub_n (zsub_n (zsub_n zsub_0)))))) ?_
    exact jX12_isOfSpan_J75 C hN ho hz hRm ret v x2 h hv Rx2
  · refine z_iload C (zd tX12_isOfSpan 22 rfl) rfl ?_
    refine z_aload_n C (zd tX12_isOfSpan 23 rfl) rfl ?_
    refine gl_12_10 (t := 139) C (lg_137 ho) zic_12 (zm zwd_1000) (vl_12_10 ho hv (lg_137 ho)) (zd tX12_isOfSpan 24 rfl) ?_
    refine z_iconst C (zd tX12_isOfSpan 25 rfl) ?_
    obtain ⟨q10, h⟩ := zck_some h
    refine za_iald C (lg_139 ho) rfl (by decide) q10 (zd tX12_isOfSpan 26 rfl) ?_
    refine z_icmp_le (tgt := 75) C Rt5 (hv.1 _ _) (zd tX12_isOfSpan 27 rfl) (by decide) h (fun h => ?_) (fun h => ?_)
    · refine z_sub (lo' := [some (zr 137), none, some (zi x2), none, none, none]) (zsub_s (zsub_n (zsub_s (zsub_n (zsub_n (zsub_n zsub_0)))))) ?_
      exact jX12_isOfSpan_J75 C hN ho hz hRm ret v x2 h hv Rx2
    · refine z_iload_n C (zd tX12_isOfSpan 28 rfl) rfl ?_
      refine z_aload_n C (zd tX12_isOfSpan 29 rfl) rfl ?_
      refine gl_12_10 (t := 139) C (lg_137 ho) zic_12 (zm zwd_1000) (vl_12_10 ho hv (lg_137 ho)) (zd tX12_isOfSpan 30 rfl) ?_
      refine z_iconst C (zd tX12_isOfSpan 31 rfl) ?_
      obtain ⟨q11, h⟩ := zck_some h
      refine za_iald C (lg_139 ho) rfl (by decide) q11 (zd tX12_isOfSpan 32 rfl) ?_
      refine z_icmp_lt (tgt := 75) C Rt2 (hv.1 _ _) (zd tX12_isOfSpan 33 rfl) (by decide) h (fun h => ?_) (fun h => ?_)
      · refine z_sub (lo' := [some (zr 137), none, some (zi x2), none, none, none]) (zsub_s (zsub_n (zsub_s (zsub_n (zsub_n (zsub_n zsub_0)))))) ?_
        exact jX12_isOfSpan_J75 C hN ho hz hRm ret v x2 h hv Rx2
      · refine z_iload_n C (zd tX12_isOfSpan 34 rfl) rfl ?_
        refine z_aload_n C (zd tX12_isOfSpan 35 rfl) rfl ?_
        refine gl_12_10 (t := 139) C (lg_137 ho) zic_12 (zm zwd_1000) (vl_12_10 ho hv (lg_137 ho)) (zd tX12_isOfSpan 36 rfl) ?_
        refine z_iconst C (zd tX12_isOfSpan 37 rfl) ?_
        obtain ⟨q12, h⟩ := zck_some h
        refine za_iald C (lg_139 ho) rfl (by decide) q12 (zd tX12_isOfSpan 38 rfl) ?_
        refine z_aload_n C (zd tX12_isOfSpan 39 rfl) rfl ?_
        refine gl_12_10 (t := 139) C (lg_137 ho) zic_12 (zm zwd_1000) (vl_12_10 ho hv (lg_137 ho)) (zd tX12_isOfSpan 40 rfl) ?_
        refine z_iconst C (zd tX12_isOfSpan 41 rfl) ?_
        obtain ⟨q13, h⟩ := zck_some h
        refine za_iald C (lg_139 ho) rfl (by decide) q13 (zd tX12_isOfSpan 42 rfl) ?_
        refine z_iadd C (zd tX12_isOfSpan 43 rfl) ?_
        obtain ⟨t14, et14, Rt14, h⟩ := zn_some h
        refine z_n0 (congrArg zI et14.symm) ?_
        refine z_icmp_ge (tgt := 75) C Rt2 Rt14 (zd tX12_isOfSpan 44 rfl) (by decide) h (fun h => ?_) (fun h => ?_)
        · refine z_sub (lo' := [some (zr 137), none, some (zi x2), none, none, none]) (zsub_s (zsub_n (zsub_s (zsub_n (zsub_n (zsub_n zsub_0)))))) ?_
          exact jX12_isOfSpan_J75 C hN ho hz hRm ret v x2 h hv Rx2
        · refine z_iconst C (zd tX12_isOfSpan 45 rfl) ?_
          refine z_goto (tgt := 76) C (zd tX12_isOfSpan 46 rfl) (by decide) ?_
          refine z_sub (lo' := [some (zr 137), none, some (zi x2), none, none, none]) (zsub_s (zsub_n (zsub_s (zsub_n (zsub_n (zsub_n zsub_0)))))) ?_
          exact jX12_isOfSpan_J76 C hN ho hz hRm ret v x2 1 h hv Rx2 (zR_c 1 rfl)
noncomputable def vsX12_quarterAt : List Cond := .code yX12_quarterAt cX12_quarterAt 2 (some .int) :: zbig
abbrev rmX12_quarterAt : Room := { frames := 0, cells := 0, slots := 0, locals := 0 }
theorem pX12_quarterAt : yX12_quarterAt.cls = RX12 ∧ yX12_quarterAt.cls ≠ "java/lang/invoke/MethodHandle" ∧ yX12_quarterAt.cls ≠ "java/lang/invoke/VarHandle" ∧ (parseMethodDescriptor yX12_quarterAt.desc).map (fun d => d.parameters.length) = some 1 := by decide +kernel
set_option maxRecDepth 100000 in
set_option maxHeartbeats 4000000 in
theorem qX12_quarterAt (l : Launch) (D : va_G) (ids : Nat → ClassId) (b : Nat) {x1 : Int} (Rx1 : zR x1) {v v' : zHp} {r' : Int} (hv : zV 137 24 v) (h : fX12_quarterAt v x1 = some (v', r')) : zCT l yX12_quarterAt vsX12_quarterAt rmX12_quarterAt D ids b 137 False 24 [zr 137, zi x1] v 24 (zV 137 24 v' ∧ zR r') (some (zi r')) v' 0 0 := by
  refine zMet (own := RX12) (by decide +kernel) (show vsX12_quarterAt = _ from rfl) (Nat.le_of_ble_eq_true rfl) rfl ?_
  intro E hl hRm hD hids hb ho hz hN C hname ret
  subst hl hD hids hb
  unfold fX12_quarterAt at h
  refine z_iload_n C (zd tX12_quarterAt 0 rfl) rfl ?_
  refine z_bipush C (by decide) (zd tX12_quarterAt 1 rfl) ?_
  refine z_idiv C Rx1 (by decide) (zR_c 15 rfl) (zd tX12_quarterAt 2 rfl) ?_
  refine z_iload_n C (zd tX12_quarterAt 3 rfl) rfl ?_
  refine z_bipush C (by decide) (zd tX12_quarterAt 4 rfl) ?_
  refine z_irem C Rx1 (by decide) (zR_c 15 rfl) (zd tX12_quarterAt 5 rfl) ?_
  refine z_aload_n C (zd tX12_quarterAt 6 rfl) rfl ?_
  refine gl_12_10 (t := 139) C (lg_137 ho) zic_12 (zm zwd_1000) (vl_12_10 ho hv (lg_137 ho)) (zd tX12_quarterAt 7 rfl) ?_
  refine z_iconst C (zd tX12_quarterAt 8 rfl) ?_
  obtain ⟨q1, h⟩ := zck_some h
  refine za_iald C (lg_139 ho) rfl (by decide) q1 (zd tX12_quarterAt 9 rfl) ?_
  refine z_icmp_gt (tgt := 21) C (zR_mod (by decide) (zR_c 15 rfl)) (hv.1 _ _) (zd tX12_quarterAt 10 rfl) (by decide) h (fun h => ?_) (fun h => ?_)
  · refine z_iconst C (zd tX12_quarterAt 13 rfl) ?_
    refine z_iadd C (zd tX12_quarterAt 14 rfl) ?_
    obtain ⟨t2, et2, Rt2, h⟩ := zn_some h
    refine z_n0 (congrArg zI et2.symm) ?_
    obtain ⟨rfl, rfl⟩ := zpi h
    exact ret.1 _ _ _ _ ⟨hv, Rt2⟩ rfl rfl rfl (zd tX12_quarterAt 15 rfl)
  · refine z_iconst C (zd tX12_quarterAt 11 rfl) ?_
    refine z_goto (tgt := 22) C (zd tX12_quarterAt 12 rfl) (by decide) ?_
    refine z_iadd C (zd tX12_quarterAt 14 rfl) ?_
    obtain ⟨t3, et3, Rt3, h⟩ := zn_some h
    refine z_n0 (congrArg zI et3.symm) ?_
    obtain ⟨rfl, rfl⟩ := zpi h
    exact ret.1 _ _ _ _ ⟨hv, Rt3⟩ rfl rfl rfl (zd tX12_quarterAt 15 rfl)
noncomputable def vsX12_laysPairs : List Cond := .code yX12_laysPairs cX12_laysPairs 5 none :: zbig
abbrev rmX12_laysPairs : Room := { frames := 1, cells := 0, slots := 0, locals := 21 }
theorem pX12_laysPairs : yX12_laysPairs.cls = RX12 ∧ yX12_laysPairs.cls ≠ "java/lang/invoke/MethodHandle" ∧ yX12_laysPairs.cls ≠ "java/lang/invoke/VarHandle" ∧ (parseMethodDescriptor yX12_laysPairs.desc).map (fun d => d.parameters.length) = some 1 := by decide +kernel
set_option maxRecDepth 100000 in
set_option maxHeartbeats 4000000 in
theorem bX12_laysPairs_L9 {E : zE} (C : zC E 24 cX12_laysPairs RX12 vsX12_laysPairs) (hN : zEN E = 5) (ho : zEo E = 137) (hz : zEz E = False) (hRm : zER E = rmX12_laysPairs) : ∀ (fu : Nat) (v : zHp) (x1 : Int) (x2 : Int) (x3 : Int) (res : (zHp × (Int))), fX12_laysPairs_L9 fu v x1 x2 x3 = some res → zV 137 24 v → zR x1 → zR x2 → zR x3 → (∀ (w : zHp) (q : Int), res = (w, q) → zV 137 24 w → True → zX E 0 0 24 w 199 [none, none, none, none, none] []) → zX E 0 0 24 v 9 [some (zr 137), some (zi x1), some (zi x2), some (zi x3), none] [] := by
  intro fu
  induction fu with
  | zero =>
    intro v _ _ _ res h
    cases h
  | succ fu ih =>
    intro v x1 x2 x3 res h hv Rx1 Rx2 Rx3 K1
    rw [fX12_laysPairs_L9.eq_2] at h
    refine z_iload_n C (zd tX12_laysPairs 7 rfl) rfl ?_
    refine z_aload_n C (zd tX12_laysPairs 8 rfl) rfl ?_
    refine gl_12_13 (t := 141) C (lg_137 ho) zic_12 (zm zwd_1003) (vl_12_13 ho hv (lg_137 ho)) (zd tX12_laysPairs 9 rfl) ?_
    refine z_iload_n C (zd tX12_laysPairs 10 rfl) rfl ?_
    obtain ⟨q2, h⟩ := zck_some h
    refine za_iald C (lg_141 ho) rfl (by decide) q2 (zd tX12_laysPairs 11 rfl) ?_
    refine z_icmp_ge (tgt := 199) C Rx3 (hv.1 _ _) (zd tX12_laysPairs 12 rfl) (by decide) h (fun h => ?_) (fun h => ?_)
    · refine z_sub (lo' := [none, none, none, none, none]) (zsub_n (zsub_n (zsub_n (zsub_n (zsub_n zsub_0))))) ?_
      exact K1 _ _ (Option.some.inj h).symm hv trivial
    · refine z_aload_n C (zd tX12_laysPairs 13 rfl) rfl ?_
      refine gl_12_15 (t := 143) C (lg_137 ho) zic_12 (zm zwd_1005) (vl_12_15 ho hv (lg_137 ho)) (zd tX12_laysPairs 14 rfl) ?_
      refine z_bipush C (by decide) (zd tX12_laysPairs 15 rfl) ?_
      refine z_iload_n C (zd tX12_laysPairs 16 rfl) rfl ?_
      refine z_imul C (zd tX12_laysPairs 17 rfl) ?_
      refine z_iload_n C (zd tX12_laysPairs 18 rfl) rfl ?_
      refine z_iadd C (zd tX12_laysPairs 19 rfl) ?_
      obtain ⟨q3, h⟩ := zck_some h
      refine za_iald C (lg_143 ho) rfl (by decide) q3 (zd tX12_laysPairs 20 rfl) ?_
      refine z_istore C (zd tX12_laysPairs 21 rfl) (by rw [hN]; decide) ?_
      refine z_aload_n C (zd tX12_laysPairs 22 rfl) rfl ?_
      refine gl_12_18 (t := 145) C (lg_137 ho) zic_12 (zm zwd_1008) (vl_12_18 ho hv (lg_137 ho)) (zd tX12_laysPairs 23 rfl) ?_
      refine z_iload_n C (zd tX12_laysPairs 24 rfl) rfl ?_
      refine z_iconst C (zd tX12_laysPairs 25 rfl) ?_
      obtain ⟨q4, h⟩ := zck_some h
      obtain ⟨v5, ev5, h⟩ := zb_some h
      have hv5 : zV 137 24 v5 := by rw [ev5]; exact hv.st (zR_c 2 rfl) (lg_145 ho).1 (Or.inr rfl)
      refine za_iast C (lg_145 ho) rfl (by decide) q4 ev5 (zd tX12_laysPairs 26 rfl) ?_
      refine z_iload_n C (zd tX12_laysPairs 27 rfl) rfl ?_
      refine z_iconst C (zd tX12_laysPairs 28 rfl) ?_
      refine z_icmp_ne (tgt := 59) C Rx2 (zR_c (-1) rfl) (zd tX12_laysPairs 29 rfl) (by decide) h (fun h => ?_) (fun h => ?_)
      · refine z_iload C (zd tX12_laysPairs 38 rfl) rfl ?_
        refine z_if_ne (tgt := 69) C (hv.1 _ _) (zd tX12_laysPairs 39 rfl) (by decide) h (fun h => ?_) (fun h => ?_)
        · refine z_aload_n C (zd tX12_laysPairs 43 rfl) rfl ?_
          refine gl_12_14 (t := 142) C (lg_137 ho) zic_12 (zm zwd_1004) (vl_12_14 ho hv5 (lg_137 ho)) (zd tX12_laysPairs 44 rfl) ?_
          refine z_bipush C (by decide) (zd tX12_laysPairs 45 rfl) ?_
          refine z_iload_n C (zd tX12_laysPairs 46 rfl) rfl ?_
          refine z_imul C (zd tX12_laysPairs 47 rfl) ?_
          refine z_iload_n C (zd tX12_laysPairs 48 rfl) rfl ?_
          refine z_iadd C (zd tX12_laysPairs 49 rfl) ?_
          obtain ⟨q6, h⟩ := zck_some h
          refine za_iald C (lg_142 ho) rfl (by decide) q6 (zd tX12_laysPairs 50 rfl) ?_
          refine z_aload_n C (zd tX12_laysPairs 51 rfl) rfl ?_
          refine gl_12_14 (t := 142) C (lg_137 ho) zic_12 (zm zwd_1004) (vl_12_14 ho hv5 (lg_137 ho)) (zd tX12_laysPairs 52 rfl) ?_
          refine z_bipush C (by decide) (zd tX12_laysPairs 53 rfl) ?_
          refine z_iload_n C (zd tX12_laysPairs 54 rfl) rfl ?_
          refine z_imul C (zd tX12_laysPairs 55 rfl) ?_
          refine z_iload_n C (zd tX12_laysPairs 56 rfl) rfl ?_
          refine z_iadd C (zd tX12_laysPairs 57 rfl) ?_
          obtain ⟨q7, h⟩ := zck_some h
          refine za_iald C (lg_142 ho) rfl (by decide) q7 (zd tX12_laysPairs 58 rfl) ?_
          refine z_isub C (zd tX12_laysPairs 59 rfl) ?_
          refine z_bipush C (by decide) (zd tX12_laysPairs 60 rfl) ?_
          refine z_aload_n C (zd tX12_laysPairs 61 rfl) rfl ?_
          refine gl_12_10 (t := 139) C (lg_137 ho) zic_12 (zm zwd_1000) (vl_12_10 ho hv5 (lg_137 ho)) (zd tX12_laysPairs 62 rfl) ?_
          refine z_iconst C (zd tX12_laysPairs 63 rfl) ?_
          obtain ⟨q8, h⟩ := zck_some h
          refine za_iald C (lg_139 ho) rfl (by decide) q8 (zd tX12_laysPairs 64 rfl) ?_
          refine z_imul C (zd tX12_laysPairs 65 rfl) ?_
          obtain ⟨t9, et9, Rt9, h⟩ := zn_some h
          refine z_n0 (congrArg zI et9.symm) ?_
          obtain ⟨t10, et10, Rt10, h⟩ := zn_some h
          refine z_n1 (congrArg zI et10.symm) ?_
          refine z_icmp_gt (tgt := 181) C Rt10 Rt9 (zd tX12_laysPairs 66 rfl) (by decide) h (fun h => ?_) (fun h => ?_)
          · refine z_iload C (zd tX12_laysPairs 116 rfl) rfl ?_
            refine z_iconst C (zd tX12_laysPairs 117 rfl) ?_
            refine z_icmp_ne (tgt := 191) C (hv.1 _ _) (zR_c 2 rfl) (zd tX12_laysPairs 118 rfl) (by decide) h (fun h => ?_) (fun h => ?_)
            · refine z_iconst C (zd tX12_laysPairs 121 rfl) ?_
              refine z_istore_n C (zd tX12_laysPairs 122 rfl) (by rw [hN]; decide) ?_
              obtain ⟨t11, et11, Rt11, h⟩ := zn_some h
              refine z_iincE C (zd tX12_laysPairs 123 rfl) (by rw [hN]; decide) rfl et11 ?_
              refine z_goto (tgt := 9) C (zd tX12_laysPairs 124 rfl) (by decide) ?_
              refine z_sub (lo' := [some (zr 137), some (zi x1), some (zi (-1)), some (zi t11), none]) (zsub_s (zsub_s (zsub_s (zsub_s (zsub_n zsub_0))))) ?_
              exact ih v5 x1 (-1) t11 _ h hv5 Rx1 (zR_c (-1) rfl) Rt11 K1
            · refine z_iload_n C (zd tX12_laysPairs 119 rfl) rfl ?_
              refine z_goto (tgt := 192) C (zd tX12_laysPairs 120 rfl) (by decide) ?_
              refine z_istore_n C (zd tX12_laysPairs 122 rfl) (by rw [hN]; decide) ?_
              obtain ⟨t12, et12, Rt12, h⟩ := zn_some h
              refine z_iincE C (zd tX12_laysPairs 123 rfl) (by rw [hN]; decide) rfl et12 ?_
              refine z_goto (tgt := 9) C (zd tX12_laysPairs 124 rfl) (by decide) ?_
              refine z_sub (lo' := [some (zr 137), some (zi x1), some (zi x3), some (zi t12), none]) (zsub_s (zsub_s (zsub_s (zsub_s (zsub_n zsub_0))))) ?_
              exact ih v5 x1 x3 t12 _ h hv5 Rx1 Rx3 Rt12 K1
          · refine z_aload_n C (zd tX12_laysPairs 67 rfl) rfl ?_
            refine gl_12_18 (t := 145) C (lg_137 ho) zic_12 (zm zwd_1008) (vl_12_18 ho hv5 (lg_137 ho)) (zd tX12_laysPairs 68 rfl) ?_
            refine z_iload_n C (zd tX12_laysPairs 69 rfl) rfl ?_
            refine z_iconst C (zd tX12_laysPairs 70 rfl) ?_
            obtain ⟨q13, h⟩ := zck_some h
            obtain ⟨v14, ev14, h⟩ := zb_some h
            have hv14 : zV 137 24 v14 := by rw [ev14]; exact hv5.st (zR_c 0 rfl) (lg_145 ho).1 (Or.inr rfl)
            refine za_iast C (lg_145 ho) rfl (by decide) q13 ev14 (zd tX12_laysPairs 71 rfl) ?_
            refine z_aload_n C (zd tX12_laysPairs 72 rfl) rfl ?_
            refine gl_12_18 (t := 145) C (lg_137 ho) zic_12 (zm zwd_1008) (vl_12_18 ho hv14 (lg_137 ho)) (zd tX12_laysPairs 73 rfl) ?_
            refine z_iload_n C (zd tX12_laysPairs 74 rfl) rfl ?_
            refine z_iconst C (zd tX12_laysPairs 75 rfl) ?_
            obtain ⟨q15, h⟩ := zck_some h
            obtain ⟨v16, ev16, h⟩ := zb_some h
            have hv16 : zV 137 24 v16 := by rw [ev16]; exact hv14.st (zR_c 1 rfl) (lg_145 ho).1 (Or.inr rfl)
            refine za_iast C (lg_145 ho) rfl (by decide) q15 ev16 (zd tX12_laysPairs 76 rfl) ?_
            refine z_aload_n C (zd tX12_laysPairs 77 rfl) rfl ?_
            refine gl_12_20 (t := 146) C (lg_137 ho) zic_12 (zm zwd_1010) (vl_12_20 ho hv16 (lg_137 ho)) (zd tX12_laysPairs 78 rfl) ?_
            refine z_aload_n C (zd tX12_laysPairs 79 rfl) rfl ?_
            refine gf_12_19 C (lg_137 ho) zic_12 (zm zwd_1009) (zd tX12_laysPairs 80 rfl) ?_
            refine z_aload_n C (zd tX12_laysPairs 81 rfl) rfl ?_
            refine z_aload_n C (zd tX12_laysPairs 82 rfl) rfl ?_
            refine gl_12_14 (t := 142) C (lg_137 ho) zic_12 (zm zwd_1004) (vl_12_14 ho hv16 (lg_137 ho)) (zd tX12_laysPairs 83 rfl) ?_
            refine z_bipush C (by decide) (zd tX12_laysPairs 84 rfl) ?_
            refine z_iload_n C (zd tX12_laysPairs 85 rfl) rfl ?_
            refine z_imul C (zd tX12_laysPairs 86 rfl) ?_
            refine z_iload_n C (zd tX12_laysPairs 87 rfl) rfl ?_
            refine z_iadd C (zd tX12_laysPairs 88 rfl) ?_
            obtain ⟨q17, h⟩ := zck_some h
            refine za_iald C (lg_142 ho) rfl (by decide) q17 (zd tX12_laysPairs 89 rfl) ?_
            obtain ⟨v18, r19, cv18, h⟩ := zcl_some h
            refine zc_V C ho hz hRm (qX12_quarterAt _ _ _ _ (hv16.1 _ _) hv16 cv18) (lg_137 ho) (by decide) rfl (zgV zwd_1247 zwd_1249 zws_58 zwd_13 zwd_1250) rfl pX12_quarterAt rfl ⟨rfl, rfl⟩ ⟨Nat.le_of_ble_eq_true rfl, Nat.le_of_ble_eq_true rfl⟩ [zi (v16 137 19), zr 146] rfl (Nat.le_of_ble_eq_true rfl) (zd tX12_laysPairs 90 rfl) [zi r19, zi (v16 137 19), zr 146] rfl (fun p20 => ?_)
            obtain ⟨q21, h⟩ := zck_some h
            obtain ⟨v22, ev22, h⟩ := zb_some h
            have hv22 : zV 137 24 v22 := by rw [ev22]; exact p20.1.st p20.2 (lg_146 ho).1 (Or.inr rfl)
            refine za_iast C (lg_146 ho) rfl (by decide) q21 ev22 (zd tX12_laysPairs 91 rfl) ?_
            refine z_aload_n C (zd tX12_laysPairs 92 rfl) rfl ?_
            refine gl_12_21 (t := 147) C (lg_137 ho) zic_12 (zm zwd_1011) (vl_12_21 ho hv22 (lg_137 ho)) (zd tX12_laysPairs 93 rfl) ?_
            refine z_aload_n C (zd tX12_laysPairs 94 rfl) rfl ?_
            refine gf_12_19 C (lg_137 ho) zic_12 (zm zwd_1009) (zd tX12_laysPairs 95 rfl) ?_
            refine z_aload_n C (zd tX12_laysPairs 96 rfl) rfl ?_
            refine z_aload_n C (zd tX12_laysPairs 97 rfl) rfl ?_
            refine gl_12_14 (t := 142) C (lg_137 ho) zic_12 (zm zwd_1004) (vl_12_14 ho hv22 (lg_137 ho)) (zd tX12_laysPairs 98 rfl) ?_
            refine z_bipush C (by decide) (zd tX12_laysPairs 99 rfl) ?_
            refine z_iload_n C (zd tX12_laysPairs 100 rfl) rfl ?_
            refine z_imul C (zd tX12_laysPairs 101 rfl) ?_
            refine z_iload_n C (zd tX12_laysPairs 102 rfl) rfl ?_
            refine z_iadd C (zd tX12_laysPairs 103 rfl) ?_
            obtain ⟨q23, h⟩ := zck_some h
            refine za_iald C (lg_142 ho) rfl (by decide) q23 (zd tX12_laysPairs 104 rfl) ?_
            obtain ⟨v24, r25, cv24, h⟩ := zcl_some h
            refine zc_V C ho hz hRm (qX12_quarterAt _ _ _ _ (hv22.1 _ _) hv22 cv24) (lg_137 ho) (by decide) rfl (zgV zwd_1247 zwd_1249 zws_58 zwd_13 zwd_1250) rfl pX12_quarterAt rfl ⟨rfl, rfl⟩ ⟨Nat.le_of_ble_eq_true rfl, Nat.le_of_ble_eq_true rfl⟩ [zi (v22 137 19), zr 147] rfl (Nat.le_of_ble_eq_true rfl) (zd tX12_laysPairs 105 rfl) [zi r25, zi (v22 137 19), zr 147] rfl (fun p26 => ?_)
            obtain ⟨q27, h⟩ := zck_some h
            obtain ⟨v28, ev28, h⟩ := zb_some h
            have hv28 : zV 137 24 v28 := by rw [ev28]; exact p26.1.st p26.2 (lg_147 ho).1 (Or.inr rfl)
            refine za_iast C (lg_147 ho) rfl (by decide) q27 ev28 (zd tX12_laysPairs 106 rfl) ?_
            refine z_aload_n C (zd tX12_laysPairs 107 rfl) rfl ?_
            refine z_dup C (zd tX12_laysPairs 108 rfl) ?_
            refine gf_12_19 C (lg_137 ho) zic_12 (zm zwd_1009) (zd tX12_laysPairs 109 rfl) ?_
            refine z_iconst C (zd tX12_laysPairs 110 rfl) ?_
            refine z_iadd C (zd tX12_laysPairs 111 rfl) ?_
            obtain ⟨t29, et29, Rt29, h⟩ := zn_some h
            refine z_n0 (congrArg zI et29.symm) ?_
            obtain ⟨v30, ev30, h⟩ := zb_some h
            have hv30 : zV 137 24 v30 := by rw [ev30]; exact hv28.st Rt29 (lg_137 ho).1 (Or.inr rfl)
            refine pf_12_19 C (lg_137 ho) zic_12 (zm zwd_1009) ev30 (zd tX12_laysPairs 112 rfl) ?_
            refine z_iconst C (zd tX12_laysPairs 113 rfl) ?_
            refine z_istore_n C (zd tX12_laysPairs 114 rfl) (by rw [hN]; decide) ?_
            refine z_goto (tgt := 193) C (zd tX12_laysPairs 115 rfl) (by decide) ?_
            obtain ⟨t31, et31, Rt31, h⟩ := zn_some h
            refine z_iincE C (zd tX12_laysPairs 123 rfl) (by rw [hN]; decide) rfl et31 ?_
            refine z_goto (tgt := 9) C (zd tX12_laysPairs 124 rfl) (by decide) ?_
            refine z_sub (lo' := [some (zr 137), some (zi x1), some (zi (-1)), some (zi t31), none]) (zsub_s (zsub_s (zsub_s (zsub_s (zsub_n zsub_0))))) ?_
            exact ih v30 x1 (-1) t31 _ h hv30 Rx1 (zR_c (-1) rfl) Rt31 K1
        · refine z_iload_n C (zd tX12_laysPairs 40 rfl) rfl ?_
          refine z_istore_n C (zd tX12_laysPairs 41 rfl) (by rw [hN]; decide) ?_
          refine z_goto (tgt := 193) C (zd tX12_laysPairs 42 rfl) (by decide) ?_
          obtain ⟨t32, et32, Rt32, h⟩ := zn_some h
          refine z_iincE C (zd tX12_laysPairs 123 rfl) (by rw [hN]; decide) rfl et32 ?_
          refine z_goto (tgt := 9) C (zd tX12_laysPairs 124 rfl) (by decide) ?_
          refine z_sub (lo' := [some (zr 137), some (zi x1), some (zi x3), some (zi t32), none]) (zsub_s (zsub_s (zsub_s (zsub_s (zsub_n zsub_0))))) ?_
          exact ih v5 x1 x3 t32 _ h hv5 Rx1 Rx3 Rt32 K1
      · refine z_iload C (zd tX12_laysPairs 30 rfl) rfl ?_
        refine z_iconst C (zd tX12_laysPairs 31 rfl) ?_
        refine z_icmp_ne (tgt := 54) C (hv.1 _ _) (zR_c 1 rfl) (zd tX12_laysPairs 32 rfl) (by decide) h (fun h => ?_) (fun h => ?_)
        · refine z_iload_n C (zd tX12_laysPairs 35 rfl) rfl ?_
          refine z_istore_n C (zd tX12_laysPairs 36 rfl) (by rw [hN]; decide) ?_
          refine z_goto (tgt := 193) C (zd tX12_laysPairs 37 rfl) (by decide) ?_
          obtain ⟨t33, et33, Rt33, h⟩ := zn_some h
          refine z_iincE C (zd tX12_laysPairs 123 rfl) (by rw [hN]; decide) rfl et33 ?_
          refine z_goto (tgt := 9) C (zd tX12_laysPairs 124 rfl) (by decide) ?_
          refine z_sub (lo' := [some (zr 137), some (zi x1), some (zi x3), some (zi t33), none]) (zsub_s (zsub_s (zsub_s (zsub_s (zsub_n zsub_0))))) ?_
          exact ih v5 x1 x3 t33 _ h hv5 Rx1 Rx3 Rt33 K1
        · refine z_iconst C (zd tX12_laysPairs 33 rfl) ?_
          refine z_goto (tgt := 55) C (zd tX12_laysPairs 34 rfl) (by decide) ?_
          refine z_istore_n C (zd tX12_laysPairs 36 rfl) (by rw [hN]; decide) ?_
          refine z_goto (tgt := 193) C (zd tX12_laysPairs 37 rfl) (by decide) ?_
          obtain ⟨t34, et34, Rt34, h⟩ := zn_some h
          refine z_iincE C (zd tX12_laysPairs 123 rfl) (by rw [hN]; decide) rfl et34 ?_
          refine z_goto (tgt := 9) C (zd tX12_laysPairs 124 rfl) (by decide) ?_
          refine z_sub (lo' := [some (zr 137), some (zi x1), some (zi (-1)), some (zi t34), none]) (zsub_s (zsub_s (zsub_s (zsub_s (zsub_n zsub_0))))) ?_
          exact ih v5 x1 (-1) t34 _ h hv5 Rx1 (zR_c (-1) rfl) Rt34 K1
set_option maxRecDepth 100000 in
set_option maxHeartbeats 4000000 in
theorem qX12_laysPairs (l : Launch) (D : va_G) (ids : Nat → ClassId) (b : Nat) {x1 : Int} (Rx1 : zR x1) {v v' : zHp} {r' : Int} (hv : zV 137 24 v) (h : fX12_laysPairs v x1 = some (v', r')) : zCT l yX12_laysPairs vsX12_laysPairs rmX12_laysPairs D ids b 137 False 24 [zr 137, zi x1] v 24 (zV 137 24 v') none v' 0 0 := by
  refine zMet (own := RX12) (by decide +kernel) (show vsX12_laysPairs = _ from rfl) (Nat.le_of_ble_eq_true rfl) rfl ?_
  intro E hl hRm hD hids hb ho hz hN C hname ret
  subst hl hD hids hb
  unfold fX12_laysPairs at h
  refine z_aload_n C (zd tX12_laysPairs 0 rfl) rfl ?_
  refine z_iconst C (zd tX12_laysPairs 1 rfl) ?_
  obtain ⟨v1, ev1, h⟩ := zb_some h
  have hv1 : zV 137 24 v1 := by rw [ev1]; exact hv.st (zR_c 0 rfl) (lg_137 ho).1 (Or.inr rfl)
  refine pf_12_19 C (lg_137 ho) zic_12 (zm zwd_1009) ev1 (zd tX12_laysPairs 2 rfl) ?_
  refine z_iconst C (zd tX12_laysPairs 3 rfl) ?_
  refine z_istore_n C (zd tX12_laysPairs 4 rfl) (by rw [hN]; decide) ?_
  refine z_iconst C (zd tX12_laysPairs 5 rfl) ?_
  refine z_istore_n C (zd tX12_laysPairs 6 rfl) (by rw [hN]; decide) ?_
  refine z_sub (lo' := [some (zr 137), some (zi x1), some (zi (-1)), some (zi 0), none]) (zsub_s (zsub_s (zsub_s (zsub_s (zsub_n zsub_0))))) ?_
  obtain ⟨v35, w36, lv35, h⟩ := zl_some h
  refine bX12_laysPairs_L9 C hN ho hz hRm zFU v1 x1 (-1) 0 _ lv35 hv1 Rx1 (zR_c (-1) rfl) (zR_c 0 rfl) (fun w1 q1 e1 hv35 Rw36 => ?_)
  obtain ⟨rfl, rfl⟩ := zpp e1
  obtain ⟨rfl, rfl⟩ := zpi h
  exact ret.2.1 _ _ hv35 rfl rfl (zd tX12_laysPairs 125 rfl)
noncomputable def vsX12_laysWorked : List Cond := .code yX12_laysWorked cX12_laysWorked 4 none :: zbig
abbrev rmX12_laysWorked : Room := { frames := 4, cells := 0, slots := 0, locals := 90 }
theorem pX12_laysWorked : yX12_laysWorked.cls = RX12 ∧ yX12_laysWorked.cls ≠ "java/lang/invoke/MethodHandle" ∧ yX12_laysWorked.cls ≠ "java/lang/invoke/VarHandle" ∧ (parseMethodDescriptor yX12_laysWorked.desc).map (fun d => d.parameters.length) = some 1 := by decide +kernel
set_option maxRecDepth 100000 in
set_option maxHeartbeats 4000000 in
theorem bX12_laysWorked_L7 {E : zE} (C : zC E 24 cX12_laysWorked RX12 vsX12_laysWorked) (hN : zEN E = 4) (ho : zEo E = 137) (hz : zEz E = False) (hRm : zER E = rmX12_laysWorked) : ∀ (fu : Nat) (v : zHp) (x2 : Int) (res : (zHp × (Int))), fX12_laysWorked_L7 fu v x2 = some res → zV 137 24 v → zR x2 → (∀ (w : zHp) (q : Int), res = (w, q) → zV 137 24 w → True → zX E 0 0 24 w 27 [some (zr 137), none, none, none] []) → zX E 0 0 24 v 7 [some (zr 137), none, some (zi x2), none] [] := by
  intro fu
  induction fu with
  | zero =>
    intro v _ res h
    cases h
  | succ fu ih =>
    intro v x2 res h hv Rx2 K1
    rw [fX12_laysWorked_L7.eq_2] at h
    refine z_iload_n C (zd tX12_laysWorked 5 rfl) rfl ?_
    refine z_sipush C (by decide) (zd tX12_laysWorked 6 rfl) ?_
    refine z_icmp_ge (tgt := 27) C Rx2 (zR_c 2720 rfl) (zd tX12_laysWorked 7 rfl) (by decide) h (fun h => ?_) (fun h => ?_)
    · refine z_sub (lo' := [some (zr 137), none, none, none]) (zsub_s (zsub_n (zsub_n (zsub_n zsub_0)))) ?_
      exact K1 _ _ (Option.some.inj h).symm hv trivial
    · refine z_aload_n C (zd tX12_laysWorked 8 rfl) rfl ?_
      refine gl_12_22 (t := 148) C (lg_137 ho) zic_12 (zm zwd_1012) (vl_12_22 ho hv (lg_137 ho)) (zd tX12_laysWorked 9 rfl) ?_
      refine z_iload_n C (zd tX12_laysWorked 10 rfl) rfl ?_
      refine z_iconst C (zd tX12_laysWorked 11 rfl) ?_
      obtain ⟨q4, h⟩ := zck_some h
      obtain ⟨v5, ev5, h⟩ := zb_some h
      have hv5 : zV 137 24 v5 := by rw [ev5]; exact hv.st (zR_c 0 rfl) (lg_148 ho).1 (Or.inr rfl)
      refine za_zast C (lg_148 ho) rfl (by decide) q4 (by decide) ev5 (zd tX12_laysWorked 12 rfl) ?_
      obtain ⟨t6, et6, Rt6, h⟩ := zn_some h
      refine z_iincE C (zd tX12_laysWorked 13 rfl) (by rw [hN]; decide) rfl et6 ?_
      refine z_goto (tgt := 7) C (zd tX12_laysWorked 14 rfl) (by decide) ?_
      refine z_sub (lo' := [some (zr 137), none, some (zi t6), none]) (zsub_s (zsub_n (zsub_s (zsub_n zsub_0)))) ?_
      exact ih v5 t6 _ h hv5 Rt6 K1
set_option maxRecDepth 100000 in
set_option maxHeartbeats 4000000 in
theorem bX12_laysWorked_L44 {E : zE} (C : zC E 24 cX12_laysWorked RX12 vsX12_laysWorked) (hN : zEN E = 4) (ho : zEo E = 137) (hz : zEz E = False) (hRm : zER E = rmX12_laysWorked) : ∀ (fu : Nat) (v : zHp) (x2 : Int) (x3 : Int) (res : (zHp × (Int))), fX12_laysWorked_L44 fu v x2 x3 = some res → zV 137 24 v → zR x2 → zR x3 → (∀ (w : zHp) (q : Int), res = (w, q) → zV 137 24 w → True → zX E 0 0 24 w 89 [some (zr 137), none, some (zi x2), none] []) → zX E 0 0 24 v 44 [some (zr 137), none, some (zi x2), some (zi x3)] [] := by
  intro fu
  induction fu with
  | zero =>
    intro v _ _ res h
    cases h
  | succ fu ih =>
    intro v x2 x3 res h hv Rx2 Rx3 K1
    rw [fX12_laysWorked_L44.eq_2] at h
    refine z_iload_n C (zd tX12_laysWorked 26 rfl) rfl ?_
    refine z_aload_n C (zd tX12_laysWorked 27 rfl) rfl ?_
    refine gl_12_21 (t := 147) C (lg_137 ho) zic_12 (zm zwd_1011) (vl_12_21 ho hv (lg_137 ho)) (zd tX12_laysWorked 28 rfl) ?_
    refine z_iload_n C (zd tX12_laysWorked 29 rfl) rfl ?_
    obtain ⟨q10, h⟩ := zck_some h
    refine za_iald C (lg_147 ho) rfl (by decide) q10 (zd tX12_laysWorked 30 rfl) ?_
    refine z_icmp_ge (tgt := 89) C Rx3 (hv.1 _ _) (zd tX12_laysWorked 31 rfl) (by decide) h (fun h => ?_) (fun h => ?_)
    · refine z_sub (lo' := [some (zr 137), none, some (zi x2), none]) (zsub_s (zsub_n (zsub_s (zsub_n zsub_0)))) ?_
      exact K1 _ _ (Option.some.inj h).symm hv trivial
    · refine z_aload_n C (zd tX12_laysWorked 32 rfl) rfl ?_
      refine gl_12_22 (t := 148) C (lg_137 ho) zic_12 (zm zwd_1012) (vl_12_22 ho hv (lg_137 ho)) (zd tX12_laysWorked 33 rfl) ?_
      refine z_iload_n C (zd tX12_laysWorked 34 rfl) rfl ?_
      refine z_aload_n C (zd tX12_laysWorked 35 rfl) rfl ?_
      refine gl_12_22 (t := 148) C (lg_137 ho) zic_12 (zm zwd_1012) (vl_12_22 ho hv (lg_137 ho)) (zd tX12_laysWorked 36 rfl) ?_
      refine z_iload_n C (zd tX12_laysWorked 37 rfl) rfl ?_
      obtain ⟨q11, h⟩ := zck_some h
      refine za_zald C (lg_148 ho) rfl (by decide) q11 (zd tX12_laysWorked 38 rfl) ?_
      refine z_if_ne (tgt := 77) C (hv.1 _ _) (zd tX12_laysWorked 39 rfl) (by decide) h (fun h => ?_) (fun h => ?_)
      · refine z_iconst C (zd tX12_laysWorked 45 rfl) ?_
        refine z_goto (tgt := 82) C (zd tX12_laysWorked 46 rfl) (by decide) ?_
        obtain ⟨q12, h⟩ := zck_some h
        obtain ⟨v13, ev13, h⟩ := zb_some h
        have hv13 : zV 137 24 v13 := by rw [ev13]; exact hv.st (zR_c 1 rfl) (lg_148 ho).1 (Or.inr rfl)
        refine za_zast C (lg_148 ho) rfl (by decide) q12 (by decide) ev13 (zd tX12_laysWorked 48 rfl) ?_
        obtain ⟨t14, et14, Rt14, h⟩ := zn_some h
        refine z_iincE C (zd tX12_laysWorked 49 rfl) (by rw [hN]; decide) rfl et14 ?_
        refine z_goto (tgt := 44) C (zd tX12_laysWorked 50 rfl) (by decide) ?_
        refine z_sub (lo' := [some (zr 137), none, some (zi x2), some (zi t14)]) (zsub_s (zsub_n (zsub_s (zsub_s zsub_0)))) ?_
        exact ih v13 x2 t14 _ h hv13 Rx2 Rt14 K1
      · refine z_aload_n C (zd tX12_laysWorked 40 rfl) rfl ?_
        refine z_iload_n C (zd tX12_laysWorked 41 rfl) rfl ?_
        refine z_iload_n C (zd tX12_laysWorked 42 rfl) rfl ?_
        obtain ⟨v15, r16, cv15, h⟩ := zcl_some h
        refine zc_V C ho hz hRm (qX12_isOfSpan _ _ _ _ Rx2 Rx3 hv cv15) (lg_137 ho) (by decide) rfl (zgV zwd_1255 zwd_1257 zws_59 zwd_13 zwd_1258) rfl pX12_isOfSpan rfl ⟨rfl, rfl⟩ ⟨Nat.le_of_ble_eq_true rfl, Nat.le_of_ble_eq_true rfl⟩ [zi x3, zr 148] rfl (Nat.le_of_ble_eq_true rfl) (zd tX12_laysWorked 43 rfl) [zi r16, zi x3, zr 148] rfl (fun p17 => ?_)
        refine z_if_eq (tgt := 81) C p17.2 (zd tX12_laysWorked 44 rfl) (by decide) h (fun h => ?_) (fun h => ?_)
        · refine z_iconst C (zd tX12_laysWorked 47 rfl) ?_
          obtain ⟨q18, h⟩ := zck_some h
          obtain ⟨v19, ev19, h⟩ := zb_some h
          have hv19 : zV 137 24 v19 := by rw [ev19]; exact p17.1.st (zR_c 0 rfl) (lg_148 ho).1 (Or.inr rfl)
          refine za_zast C (lg_148 ho) rfl (by decide) q18 (by decide) ev19 (zd tX12_laysWorked 48 rfl) ?_
          obtain ⟨t20, et20, Rt20, h⟩ := zn_some h
          refine z_iincE C (zd tX12_laysWorked 49 rfl) (by rw [hN]; decide) rfl et20 ?_
          refine z_goto (tgt := 44) C (zd tX12_laysWorked 50 rfl) (by decide) ?_
          refine z_sub (lo' := [some (zr 137), none, some (zi x2), some (zi t20)]) (zsub_s (zsub_n (zsub_s (zsub_s zsub_0)))) ?_
          exact ih v19 x2 t20 _ h hv19 Rx2 Rt20 K1
        · refine z_iconst C (zd tX12_laysWorked 45 rfl) ?_
          refine z_goto (tgt := 82) C (zd tX12_laysWorked 46 rfl) (by decide) ?_
          obtain ⟨q21, h⟩ := zck_some h
          obtain ⟨v22, ev22, h⟩ := zb_some h
          have hv22 : zV 137 24 v22 := by rw [ev22]; exact p17.1.st (zR_c 1 rfl) (lg_148 ho).1 (Or.inr rfl)
          refine za_zast C (lg_148 ho) rfl (by decide) q21 (by decide) ev22 (zd tX12_laysWorked 48 rfl) ?_
          obtain ⟨t23, et23, Rt23, h⟩ := zn_some h
          refine z_iincE C (zd tX12_laysWorked 49 rfl) (by rw [hN]; decide) rfl et23 ?_
          refine z_goto (tgt := 44) C (zd tX12_laysWorked 50 rfl) (by decide) ?_
          refine z_sub (lo' := [some (zr 137), none, some (zi x2), some (zi t23)]) (zsub_s (zsub_n (zsub_s (zsub_s zsub_0)))) ?_
          exact ih v22 x2 t23 _ h hv22 Rx2 Rt23 K1
set_option maxRecDepth 100000 in
set_option maxHeartbeats 4000000 in
theorem bX12_laysWorked_L29 {E : zE} (C : zC E 24 cX12_laysWorked RX12 vsX12_laysWorked) (hN : zEN E = 4) (ho : zEo E = 137) (hz : zEz E = False) (hRm : zER E = rmX12_laysWorked) : ∀ (fu : Nat) (v : zHp) (x2 : Int) (res : (zHp × (Int))), fX12_laysWorked_L29 fu v x2 = some res → zV 137 24 v → zR x2 → (∀ (w : zHp) (q : Int), res = (w, q) → zV 137 24 w → True → zX E 0 0 24 w 95 [none, none, none, none] []) → zX E 0 0 24 v 29 [some (zr 137), none, some (zi x2), none] [] := by
  intro fu
  induction fu with
  | zero =>
    intro v _ res h
    cases h
  | succ fu ih =>
    intro v x2 res h hv Rx2 K1
    rw [fX12_laysWorked_L29.eq_2] at h
    refine z_iload_n C (zd tX12_laysWorked 17 rfl) rfl ?_
    refine z_aload_n C (zd tX12_laysWorked 18 rfl) rfl ?_
    refine gf_12_19 C (lg_137 ho) zic_12 (zm zwd_1009) (zd tX12_laysWorked 19 rfl) ?_
    refine z_icmp_ge (tgt := 95) C Rx2 (hv.1 _ _) (zd tX12_laysWorked 20 rfl) (by decide) h (fun h => ?_) (fun h => ?_)
    · refine z_sub (lo' := [none, none, none, none]) (zsub_n (zsub_n (zsub_n (zsub_n zsub_0)))) ?_
      exact K1 _ _ (Option.some.inj h).symm hv trivial
    · refine z_aload_n C (zd tX12_laysWorked 21 rfl) rfl ?_
      refine gl_12_20 (t := 146) C (lg_137 ho) zic_12 (zm zwd_1010) (vl_12_20 ho hv (lg_137 ho)) (zd tX12_laysWorked 22 rfl) ?_
      refine z_iload_n C (zd tX12_laysWorked 23 rfl) rfl ?_
      obtain ⟨q9, h⟩ := zck_some h
      refine za_iald C (lg_146 ho) rfl (by decide) q9 (zd tX12_laysWorked 24 rfl) ?_
      refine z_istore_n C (zd tX12_laysWorked 25 rfl) (by rw [hN]; decide) ?_
      refine z_sub (lo' := [some (zr 137), none, some (zi x2), some (zi (v 146 x2))]) (zsub_s (zsub_n (zsub_s (zsub_s zsub_0)))) ?_
      obtain ⟨v24, w25, lv24, h⟩ := zl_some h
      refine bX12_laysWorked_L44 C hN ho hz hRm zFU v x2 (v 146 x2) _ lv24 hv Rx2 (hv.1 _ _) (fun w1 q1 e1 hv24 Rw25 => ?_)
      obtain ⟨rfl, rfl⟩ := zpp e1
      obtain ⟨t26, et26, Rt26, h⟩ := zn_some h
      refine z_iincE C (zd tX12_laysWorked 51 rfl) (by rw [hN]; decide) rfl et26 ?_
      refine z_goto (tgt := 29) C (zd tX12_laysWorked 52 rfl) (by decide) ?_
      refine z_sub (lo' := [some (zr 137), none, some (zi t26), none]) (zsub_s (zsub_n (zsub_s (zsub_n zsub_0)))) ?_
      exact ih v24 t26 _ h hv24 Rt26 K1
set_option maxRecDepth 100000 in
set_option maxHeartbeats 4000000 in
theorem qX12_laysWorked (l : Launch) (D : va_G) (ids : Nat → ClassId) (b : Nat) {x1 : Int} (Rx1 : zR x1) {v v' : zHp} {r' : Int} (hv : zV 137 24 v) (h : fX12_laysWorked v x1 = some (v', r')) : zCT l yX12_laysWorked vsX12_laysWorked rmX12_laysWorked D ids b 137 False 24 [zr 137, zi x1] v 24 (zV 137 24 v') none v' 0 0 := by
  refine zMet (own := RX12) (by decide +kernel) (show vsX12_laysWorked = _ from rfl) (Nat.le_of_ble_eq_true rfl) rfl ?_
  intro E hl hRm hD hids hb ho hz hN C hname ret
  subst hl hD hids hb
  unfold fX12_laysWorked at h
  refine z_aload_n C (zd tX12_laysWorked 0 rfl) rfl ?_
  refine z_iload_n C (zd tX12_laysWorked 1 rfl) rfl ?_
  obtain ⟨v1, r2, cv1, h⟩ := zcl_some h
  refine zc_V C ho hz hRm (qX12_laysPairs _ _ _ _ Rx1 hv cv1) (lg_137 ho) (by decide) rfl (zgV zwd_1243 zwd_1245 zws_57 zwd_13 zwd_1246) rfl pX12_laysPairs rfl ⟨rfl, rfl⟩ ⟨Nat.le_of_ble_eq_true rfl, Nat.le_of_ble_eq_true rfl⟩ [] rfl (Nat.le_of_ble_eq_true rfl) (zd tX12_laysWorked 2 rfl) [] rfl (fun p3 => ?_)
  refine z_iconst C (zd tX12_laysWorked 3 rfl) ?_
  refine z_istore_n C (zd tX12_laysWorked 4 rfl) (by rw [hN]; decide) ?_
  refine z_sub (lo' := [some (zr 137), none, some (zi 0), none]) (zsub_s (zsub_n (zsub_s (zsub_n zsub_0)))) ?_
  obtain ⟨v7, w8, lv7, h⟩ := zl_some h
  refine bX12_laysWorked_L7 C hN ho hz hRm zFU v1 0 _ lv7 p3 (zR_c 0 rfl) (fun w1 q1 e1 hv7 Rw8 => ?_)
  obtain ⟨rfl, rfl⟩ := zpp e1
  refine z_iconst C (zd tX12_laysWorked 15 rfl) ?_
  refine z_istore_n C (zd tX12_laysWorked 16 rfl) (by rw [hN]; decide) ?_
  refine z_sub (lo' := [some (zr 137), none, some (zi 0), none]) (zsub_s (zsub_n (zsub_s (zsub_n zsub_0)))) ?_
  obtain ⟨v27, w28, lv27, h⟩ := zl_some h
  refine bX12_laysWorked_L29 C hN ho hz hRm zFU v7 0 _ lv27 hv7 (zR_c 0 rfl) (fun w1 q1 e1 hv27 Rw28 => ?_)
  obtain ⟨rfl, rfl⟩ := zpp e1
  obtain ⟨rfl, rfl⟩ := zpi h
  exact ret.2.1 _ _ hv27 rfl rfl (zd tX12_laysWorked 53 rfl)
noncomputable def vsX12_payOf : List Cond := .code yX12_payOf cX12_payOf 4 (some .int) :: zbig
abbrev rmX12_payOf : Room := { frames := 5, cells := 0, slots := 0, locals := 117 }
theorem pX12_payOf : yX12_payOf.cls = RX12 ∧ yX12_payOf.cls ≠ "java/lang/invoke/MethodHandle" ∧ yX12_payOf.cls ≠ "java/lang/invoke/VarHandle" ∧ (parseMethodDescriptor yX12_payOf.desc).map (fun d => d.parameters.length) = some 1 := by decide +kernel
set_option maxRecDepth 100000 in
set_option maxHeartbeats 4000000 in
theorem bX12_payOf_L9 {E : zE} (C : zC E 24 cX12_payOf RX12 vsX12_payOf) (hN : zEN E = 4) (ho : zEo E = 137) (hz : zEz E = False) (hRm : zER E = rmX12_payOf) : ∀ (fu : Nat) (v : zHp) (x2 : Int) (x3 : Int) (res : (zHp × (Int))), fX12_payOf_L9 fu v x2 x3 = some res → zV 137 24 v → zR x2 → zR x3 → (∀ (w : zHp) (q : Int), res = (w, q) → zV 137 24 w → zR q → zX E 0 0 24 w 49 [some (zr 137), none, some (zi q), none] []) → zX E 0 0 24 v 9 [some (zr 137), none, some (zi x2), some (zi x3)] [] := by
  intro fu
  induction fu with
  | zero =>
    intro v _ _ res h
    cases h
  | succ fu ih =>
    intro v x2 x3 res h hv Rx2 Rx3 K1
    rw [fX12_payOf_L9.eq_2] at h
    refine z_iload_n C (zd tX12_payOf 7 rfl) rfl ?_
    refine z_iconst C (zd tX12_payOf 8 rfl) ?_
    refine z_icmp_ge (tgt := 49) C Rx3 (zR_c 4 rfl) (zd tX12_payOf 9 rfl) (by decide) h (fun h => ?_) (fun h => ?_)
    · refine z_sub (lo' := [some (zr 137), none, some (zi x2), none]) (zsub_s (zsub_n (zsub_s (zsub_n zsub_0)))) ?_
      exact K1 _ _ (Option.some.inj h).symm hv Rx2
    · refine z_aload_n C (zd tX12_payOf 10 rfl) rfl ?_
      refine z_iload_n C (zd tX12_payOf 11 rfl) rfl ?_
      obtain ⟨v4, r5, cv4, h⟩ := zcl_some h
      refine zc_V C ho hz hRm (qX12_laysQuarters _ _ _ _ Rx3 hv cv4) (lg_137 ho) (by decide) rfl (zgV zwd_1279 zwd_1281 zws_64 zwd_13 zwd_1282) rfl pX12_laysQuarters rfl ⟨rfl, rfl⟩ ⟨Nat.le_of_ble_eq_true rfl, Nat.le_of_ble_eq_true rfl⟩ [] rfl (Nat.le_of_ble_eq_true rfl) (zd tX12_payOf 12 rfl) [] rfl (fun p6 => ?_)
      refine z_aload_n C (zd tX12_payOf 13 rfl) rfl ?_
      obtain ⟨v7, r8, cv7, h⟩ := zcl_some h
      refine zc_V C ho hz hRm (qX12_laysBest _ _ _ _ p6 cv7) (lg_137 ho) (by decide) rfl (zgV zwd_1295 zwd_1297 zws_68 zwd_13 zwd_1298) rfl pX12_laysBest rfl ⟨rfl, rfl⟩ ⟨Nat.le_of_ble_eq_true rfl, Nat.le_of_ble_eq_true rfl⟩ [] rfl (Nat.le_of_ble_eq_true rfl) (zd tX12_payOf 14 rfl) [] rfl (fun p9 => ?_)
      refine z_iload_n C (zd tX12_payOf 15 rfl) rfl ?_
      refine z_aload_n C (zd tX12_payOf 16 rfl) rfl ?_
      refine gf_12_23 C (lg_137 ho) zic_12 (zm zwd_1013) (zd tX12_payOf 17 rfl) ?_
      refine z_if_ne (tgt := 35) C (p9.1 _ _) (zd tX12_payOf 18 rfl) (by decide) h (fun h => ?_) (fun h => ?_)
      · refine z_aload_n C (zd tX12_payOf 21 rfl) rfl ?_
        refine gl_12_29 (t := 154) C (lg_137 ho) zic_12 (zm zwd_1019) (vl_12_29 ho p9 (lg_137 ho)) (zd tX12_payOf 22 rfl) ?_
        refine z_iconst C (zd tX12_payOf 23 rfl) ?_
        obtain ⟨q10, h⟩ := zck_some h
        refine za_iald C (lg_154 ho) rfl (by decide) q10 (zd tX12_payOf 24 rfl) ?_
        refine z_iadd C (zd tX12_payOf 25 rfl) ?_
        obtain ⟨t11, et11, Rt11, h⟩ := zn_some h
        refine z_n0 (congrArg zI et11.symm) ?_
        refine z_istore_n C (zd tX12_payOf 26 rfl) (by rw [hN]; decide) ?_
        obtain ⟨t12, et12, Rt12, h⟩ := zn_some h
        refine z_iincE C (zd tX12_payOf 27 rfl) (by rw [hN]; decide) rfl et12 ?_
        refine z_goto (tgt := 9) C (zd tX12_payOf 28 rfl) (by decide) ?_
        refine z_sub (lo' := [some (zr 137), none, some (zi t11), some (zi t12)]) (zsub_s (zsub_n (zsub_s (zsub_s zsub_0)))) ?_
        exact ih v7 t11 t12 _ h p9 Rt11 Rt12 K1
      · refine z_iconst C (zd tX12_payOf 19 rfl) ?_
        refine z_goto (tgt := 41) C (zd tX12_payOf 20 rfl) (by decide) ?_
        refine z_iadd C (zd tX12_payOf 25 rfl) ?_
        obtain ⟨t13, et13, Rt13, h⟩ := zn_some h
        refine z_n0 (congrArg zI et13.symm) ?_
        refine z_istore_n C (zd tX12_payOf 26 rfl) (by rw [hN]; decide) ?_
        obtain ⟨t14, et14, Rt14, h⟩ := zn_some h
        refine z_iincE C (zd tX12_payOf 27 rfl) (by rw [hN]; decide) rfl et14 ?_
        refine z_goto (tgt := 9) C (zd tX12_payOf 28 rfl) (by decide) ?_
        refine z_sub (lo' := [some (zr 137), none, some (zi t13), some (zi t14)]) (zsub_s (zsub_n (zsub_s (zsub_s zsub_0)))) ?_
        exact ih v7 t13 t14 _ h p9 Rt13 Rt14 K1
set_option maxRecDepth 100000 in
set_option maxHeartbeats 4000000 in
theorem qX12_payOf (l : Launch) (D : va_G) (ids : Nat → ClassId) (b : Nat) {x1 : Int} (Rx1 : zR x1) {v v' : zHp} {r' : Int} (hv : zV 137 24 v) (h : fX12_payOf v x1 = some (v', r')) : zCT l yX12_payOf vsX12_payOf rmX12_payOf D ids b 137 False 24 [zr 137, zi x1] v 24 (zV 137 24 v' ∧ zR r') (some (zi r')) v' 0 0 := by
  refine zMet (own := RX12) (by decide +kernel) (show vsX12_payOf = _ from rfl) (Nat.le_of_ble_eq_true rfl) rfl ?_
  intro E hl hRm hD hids hb ho hz hN C hname ret
  subst hl hD hids hb
  unfold fX12_payOf at h
  refine z_aload_n C (zd tX12_payOf 0 rfl) rfl ?_
  refine z_iload_n C (zd tX12_payOf 1 rfl) rfl ?_
  obtain ⟨v1, r2, cv1, h⟩ := zcl_some h
  refine zc_V C ho hz hRm (qX12_laysWorked _ _ _ _ Rx1 hv cv1) (lg_137 ho) (by decide) rfl (zgV zwd_1267 zwd_1269 zws_61 zwd_13 zwd_1270) rfl pX12_laysWorked rfl ⟨rfl, rfl⟩ ⟨Nat.le_of_ble_eq_true rfl, Nat.le_of_ble_eq_true rfl⟩ [] rfl (Nat.le_of_ble_eq_true rfl) (zd tX12_payOf 2 rfl) [] rfl (fun p3 => ?_)
  refine z_iconst C (zd tX12_payOf 3 rfl) ?_
  refine z_istore_n C (zd tX12_payOf 4 rfl) (by rw [hN]; decide) ?_
  refine z_iconst C (zd tX12_payOf 5 rfl) ?_
  refine z_istore_n C (zd tX12_payOf 6 rfl) (by rw [hN]; decide) ?_
  refine z_sub (lo' := [some (zr 137), none, some (zi 0), some (zi 0)]) (zsub_s (zsub_n (zsub_s (zsub_s zsub_0)))) ?_
  obtain ⟨v15, w16, lv15, h⟩ := zl_some h
  refine bX12_payOf_L9 C hN ho hz hRm zFU v1 0 0 _ lv15 p3 (zR_c 0 rfl) (zR_c 0 rfl) (fun w1 q1 e1 hv15 Rw16 => ?_)
  obtain ⟨rfl, rfl⟩ := zpp e1
  refine z_aload_n C (zd tX12_payOf 29 rfl) rfl ?_
  refine gl_12_10 (t := 139) C (lg_137 ho) zic_12 (zm zwd_1000) (vl_12_10 ho hv15 (lg_137 ho)) (zd tX12_payOf 30 rfl) ?_
  refine z_iconst C (zd tX12_payOf 31 rfl) ?_
  obtain ⟨q17, h⟩ := zck_some h
  refine za_iald C (lg_139 ho) rfl (by decide) q17 (zd tX12_payOf 32 rfl) ?_
  refine z_iload_n C (zd tX12_payOf 33 rfl) rfl ?_
  refine z_imul C (zd tX12_payOf 34 rfl) ?_
  obtain ⟨t18, et18, Rt18, h⟩ := zn_some h
  refine z_n0 (congrArg zI et18.symm) ?_
  obtain ⟨rfl, rfl⟩ := zpi h
  exact ret.1 _ _ _ _ ⟨hv15, Rt18⟩ rfl rfl rfl (zd tX12_payOf 35 rfl)
noncomputable def vsX12_allPay : List Cond := .code yX12_allPay cX12_allPay 3 (some .int) :: zbig
abbrev rmX12_allPay : Room := { frames := 6, cells := 0, slots := 0, locals := 140 }
theorem pX12_allPay : yX12_allPay.cls = RX12 ∧ yX12_allPay.cls ≠ "java/lang/invoke/MethodHandle" ∧ yX12_allPay.cls ≠ "java/lang/invoke/VarHandle" ∧ (parseMethodDescriptor yX12_allPay.desc).map (fun d => d.parameters.length) = some 0 := by decide +kernel
set_option maxRecDepth 100000 in
set_option maxHeartbeats 4000000 in
theorem bX12_allPay_L4 {E : zE} (C : zC E 24 cX12_allPay RX12 vsX12_allPay) (hN : zEN E = 3) (ho : zEo E = 137) (hz : zEz E = False) (hRm : zER E = rmX12_allPay) : ∀ (fu : Nat) (v : zHp) (x1 : Int) (x2 : Int) (res : (zHp × (Int))), fX12_allPay_L4 fu v x1 x2 = some res → zV 137 24 v → zR x1 → zR x2 → (∀ (w : zHp) (q : Int), res = (w, q) → zV 137 24 w → zR q → zX E 0 0 24 w 23 [none, some (zi q), none] []) → zX E 0 0 24 v 4 [some (zr 137), some (zi x1), some (zi x2)] [] := by
  intro fu
  induction fu with
  | zero =>
    intro v _ _ res h
    cases h
  | succ fu ih =>
    intro v x1 x2 res h hv Rx1 Rx2 K1
    rw [fX12_allPay_L4.eq_2] at h
    refine z_iload_n C (zd tX12_allPay 4 rfl) rfl ?_
    refine z_iconst C (zd tX12_allPay 5 rfl) ?_
    refine z_icmp_ge (tgt := 23) C Rx2 (zR_c 4 rfl) (zd tX12_allPay 6 rfl) (by decide) h (fun h => ?_) (fun h => ?_)
    · refine z_sub (lo' := [none, some (zi x1), none]) (zsub_n (zsub_s (zsub_n zsub_0))) ?_
      exact K1 _ _ (Option.some.inj h).symm hv Rx1
    · refine z_iload_n C (zd tX12_allPay 7 rfl) rfl ?_
      refine z_aload_n C (zd tX12_allPay 8 rfl) rfl ?_
      refine z_iload_n C (zd tX12_allPay 9 rfl) rfl ?_
      obtain ⟨v1, r2, cv1, h⟩ := zcl_some h
      refine zc_V C ho hz hRm (qX12_payOf _ _ _ _ Rx2 hv cv1) (lg_137 ho) (by decide) rfl (zgV zwd_1367 zwd_1369 zws_80 zwd_13 zwd_1370) rfl pX12_payOf rfl ⟨rfl, rfl⟩ ⟨Nat.le_of_ble_eq_true rfl, Nat.le_of_ble_eq_true rfl⟩ [zi x1] rfl (Nat.le_of_ble_eq_true rfl) (zd tX12_allPay 10 rfl) [zi r2, zi x1] rfl (fun p3 => ?_)
      refine z_iadd C (zd tX12_allPay 11 rfl) ?_
      obtain ⟨t4, et4, Rt4, h⟩ := zn_some h
      refine z_n0 (congrArg zI et4.symm) ?_
      refine z_istore_n C (zd tX12_allPay 12 rfl) (by rw [hN]; decide) ?_
      obtain ⟨t5, et5, Rt5, h⟩ := zn_some h
      refine z_iincE C (zd tX12_allPay 13 rfl) (by rw [hN]; decide) rfl et5 ?_
      refine z_goto (tgt := 4) C (zd tX12_allPay 14 rfl) (by decide) ?_
      refine z_sub (lo' := [some (zr 137), some (zi t4), some (zi t5)]) (zsub_s (zsub_s (zsub_s zsub_0))) ?_
      exact ih v1 t4 t5 _ h p3.1 Rt4 Rt5 K1
set_option maxRecDepth 100000 in
set_option maxHeartbeats 4000000 in
theorem qX12_allPay (l : Launch) (D : va_G) (ids : Nat → ClassId) (b : Nat)  {v v' : zHp} {r' : Int} (hv : zV 137 24 v) (h : fX12_allPay v = some (v', r')) : zCT l yX12_allPay vsX12_allPay rmX12_allPay D ids b 137 False 24 [zr 137] v 24 (zV 137 24 v' ∧ zR r') (some (zi r')) v' 0 0 := by
  refine zMet (own := RX12) (by decide +kernel) (show vsX12_allPay = _ from rfl) (Nat.le_of_ble_eq_true rfl) rfl ?_
  intro E hl hRm hD hids hb ho hz hN C hname ret
  subst hl hD hids hb
  unfold fX12_allPay at h
  refine z_iconst C (zd tX12_allPay 0 rfl) ?_
  refine z_istore_n C (zd tX12_allPay 1 rfl) (by rw [hN]; decide) ?_
  refine z_iconst C (zd tX12_allPay 2 rfl) ?_
  refine z_istore_n C (zd tX12_allPay 3 rfl) (by rw [hN]; decide) ?_
  refine z_sub (lo' := [some (zr 137), some (zi 0), some (zi 0)]) (zsub_s (zsub_s (zsub_s zsub_0))) ?_
  obtain ⟨v6, w7, lv6, h⟩ := zl_some h
  refine bX12_allPay_L4 C hN ho hz hRm zFU v 0 0 _ lv6 hv (zR_c 0 rfl) (zR_c 0 rfl) (fun w1 q1 e1 hv6 Rw7 => ?_)
  obtain ⟨rfl, rfl⟩ := zpp e1
  refine z_iload_n C (zd tX12_allPay 15 rfl) rfl ?_
  obtain ⟨rfl, rfl⟩ := zpi h
  exact ret.1 _ _ _ _ ⟨hv6, Rw7⟩ rfl rfl rfl (zd tX12_allPay 16 rfl)
noncomputable def vsX12_bad : List Cond := .code yX12_bad cX12_bad 2 (some .boolean) :: zbig
abbrev rmX12_bad : Room := { frames := 0, cells := 0, slots := 0, locals := 0 }
theorem pX12_bad : yX12_bad.cls = RX12 ∧ yX12_bad.cls ≠ "java/lang/invoke/MethodHandle" ∧ yX12_bad.cls ≠ "java/lang/invoke/VarHandle" ∧ (parseMethodDescriptor yX12_bad.desc).map (fun d => d.parameters.length) = some 1 := by decide +kernel
set_option maxRecDepth 100000 in
set_option maxHeartbeats 4000000 in
theorem qX12_bad (l : Launch) (D : va_G) (ids : Nat → ClassId) (b : Nat) {x1 : Int} (Rx1 : zR x1) {v v' : zHp} {r' : Int} (hv : zV 137 24 v) (h : fX12_bad v x1 = some (v', r')) : zCT l yX12_bad vsX12_bad rmX12_bad D ids b 137 False 24 [zr 137, zi x1] v 24 (zV 137 24 v' ∧ zR r') (some (zi r')) v' 0 0 := by
  refine zMet (own := RX12) (by decide +kernel) (show vsX12_bad = _ from rfl) (Nat.le_of_ble_eq_true rfl) rfl ?_
  intro E hl hRm hD hids hb ho hz hN C hname ret
  subst hl hD hids hb
  unfold fX12_bad at h
  refine z_aload_n C (zd tX12_bad 0 rfl) rfl ?_
  refine z_aload_n C (zd tX12_bad 1 rfl) rfl ?_
  refine gf_12_8 C (lg_137 ho) zic_12 (zm zwd_998) (zd tX12_bad 2 rfl) ?_
  refine z_if_ne (tgt := 20) C (hv.1 _ _) (zd tX12_bad 3 rfl) (by decide) h (fun h => ?_) (fun h => ?_)
  · refine z_aload_n C (zd tX12_bad 11 rfl) rfl ?_
    refine gf_12_8 C (lg_137 ho) zic_12 (zm zwd_998) (zd tX12_bad 12 rfl) ?_
    obtain ⟨v1, ev1, h⟩ := zb_some h
    have hv1 : zV 137 24 v1 := by rw [ev1]; exact hv.st (hv.1 _ _) (lg_137 ho).1 (Or.inr rfl)
    refine pf_12_8 C (lg_137 ho) zic_12 (zm zwd_998) ev1 (zd tX12_bad 13 rfl) ?_
    refine z_iconst C (zd tX12_bad 14 rfl) ?_
    obtain ⟨rfl, rfl⟩ := zpi h
    exact ret.1 _ _ _ _ ⟨hv1, (zR_c 0 rfl)⟩ rfl rfl (by decide) (zd tX12_bad 15 rfl)
  · refine z_bipush C (by decide) (zd tX12_bad 4 rfl) ?_
    refine z_aload_n C (zd tX12_bad 5 rfl) rfl ?_
    refine gf_12_4 C (lg_137 ho) zic_12 (zm zwd_994) (zd tX12_bad 6 rfl) ?_
    refine z_imul C (zd tX12_bad 7 rfl) ?_
    refine z_iload_n C (zd tX12_bad 8 rfl) rfl ?_
    refine z_iadd C (zd tX12_bad 9 rfl) ?_
    refine z_goto (tgt := 24) C (zd tX12_bad 10 rfl) (by decide) ?_
    obtain ⟨t2, et2, Rt2, h⟩ := zn_some h
    refine z_n0 (congrArg zI et2.symm) ?_
    obtain ⟨v3, ev3, h⟩ := zb_some h
    have hv3 : zV 137 24 v3 := by rw [ev3]; exact hv.st Rt2 (lg_137 ho).1 (Or.inr rfl)
    refine pf_12_8 C (lg_137 ho) zic_12 (zm zwd_998) ev3 (zd tX12_bad 13 rfl) ?_
    refine z_iconst C (zd tX12_bad 14 rfl) ?_
    obtain ⟨rfl, rfl⟩ := zpi h
    exact ret.1 _ _ _ _ ⟨hv3, (zR_c 0 rfl)⟩ rfl rfl (by decide) (zd tX12_bad 15 rfl)
noncomputable def vsX12_byteAt : List Cond := .code yX12_byteAt cX12_byteAt 2 (some .int) :: zbig
abbrev rmX12_byteAt : Room := { frames := 0, cells := 0, slots := 0, locals := 0 }
theorem pX12_byteAt : yX12_byteAt.cls = RX12 ∧ yX12_byteAt.cls ≠ "java/lang/invoke/MethodHandle" ∧ yX12_byteAt.cls ≠ "java/lang/invoke/VarHandle" ∧ (parseMethodDescriptor yX12_byteAt.desc).map (fun d => d.parameters.length) = some 1 := by decide +kernel
set_option maxRecDepth 100000 in
set_option maxHeartbeats 4000000 in
theorem qX12_byteAt (l : Launch) (D : va_G) (ids : Nat → ClassId) (b : Nat) {x1 : Int} (Rx1 : zR x1) {v v' : zHp} {r' : Int} (hv : zV 137 24 v) (h : fX12_byteAt v x1 = some (v', r')) : zCT l yX12_byteAt vsX12_byteAt rmX12_byteAt D ids b 137 False 24 [zr 137, zi x1] v 24 (zV 137 24 v' ∧ zR r') (some (zi r')) v' 0 0 := by
  refine zMet (own := RX12) (by decide +kernel) (show vsX12_byteAt = _ from rfl) (Nat.le_of_ble_eq_true rfl) rfl ?_
  intro E hl hRm hD hids hb ho hz hN C hname ret
  subst hl hD hids hb
  unfold fX12_byteAt at h
  refine z_iload_n C (zd tX12_byteAt 0 rfl) rfl ?_
  refine z_aload_n C (zd tX12_byteAt 1 rfl) rfl ?_
  refine gf_12_3 C (lg_137 ho) zic_12 (zm zwd_993) (zd tX12_byteAt 2 rfl) ?_
  refine z_icmp_ge (tgt := 21) C Rx1 (hv.1 _ _) (zd tX12_byteAt 3 rfl) (by decide) h (fun h => ?_) (fun h => ?_)
  · refine z_iconst C (zd tX12_byteAt 11 rfl) ?_
    obtain ⟨rfl, rfl⟩ := zpi h
    exact ret.1 _ _ _ _ ⟨hv, (zR_c (-1) rfl)⟩ rfl rfl rfl (zd tX12_byteAt 12 rfl)
  · refine z_aload_n C (zd tX12_byteAt 4 rfl) rfl ?_
    refine gl_12_1 (t := 138) C (lg_137 ho) zic_12 (zm zwd_991) (vl_12_1 ho hv (lg_137 ho)) (zd tX12_byteAt 5 rfl) ?_
    refine z_iload_n C (zd tX12_byteAt 6 rfl) rfl ?_
    obtain ⟨q1, h⟩ := zck_some h
    refine za_bald C (lg_138 ho) rfl (by decide) q1 (zd tX12_byteAt 7 rfl) ?_
    refine z_sipush C (by decide) (zd tX12_byteAt 8 rfl) ?_
    refine z_iand C (zd tX12_byteAt 9 rfl) ?_
    refine z_goto (tgt := 22) C (zd tX12_byteAt 10 rfl) (by decide) ?_
    obtain ⟨rfl, rfl⟩ := zpi h
    exact ret.1 _ _ _ _ ⟨hv, (zR_and _ _)⟩ rfl rfl rfl (zd tX12_byteAt 12 rfl)
noncomputable def vsX12_canBe : List Cond := .code yX12_canBe cX12_canBe 4 (some .boolean) :: zbig
abbrev rmX12_canBe : Room := { frames := 1, cells := 0, slots := 0, locals := 22 }
theorem pX12_canBe : yX12_canBe.cls = RX12 ∧ yX12_canBe.cls ≠ "java/lang/invoke/MethodHandle" ∧ yX12_canBe.cls ≠ "java/lang/invoke/VarHandle" ∧ (parseMethodDescriptor yX12_canBe.desc).map (fun d => d.parameters.length) = some 3 := by decide +kernel
set_option maxRecDepth 100000 in
set_option maxHeartbeats 4000000 in
theorem qX12_canBe (l : Launch) (D : va_G) (ids : Nat → ClassId) (b : Nat) {x1 : Int} (Rx1 : zR x1) {x2 : Int} (Rx2 : zR x2) {x3 : Int} (Rx3 : zR x3) {v v' : zHp} {r' : Int} (hv : zV 137 24 v) (h : fX12_canBe v x1 x2 x3 = some (v', r')) : zCT l yX12_canBe vsX12_canBe rmX12_canBe D ids b 137 False 24 [zr 137, zi x1, zi x2, zi x3] v 24 (zV 137 24 v' ∧ zR r') (some (zi r')) v' 0 0 := by
  refine zMet (own := RX12) (by decide +kernel) (show vsX12_canBe = _ from rfl) (Nat.le_of_ble_eq_true rfl) rfl ?_
  intro E hl hRm hD hids hb ho hz hN C hname ret
  subst hl hD hids hb
  unfold fX12_canBe at h
  refine z_aload_n C (zd tX12_canBe 0 rfl) rfl ?_
  refine z_iload_n C (zd tX12_canBe 1 rfl) rfl ?_
  refine z_iconst C (zd tX12_canBe 2 rfl) ?_
  obtain ⟨v1, r2, cv1, h⟩ := zcl_some h
  refine zc_V C ho hz hRm (qX12_premiumIs _ _ _ _ Rx2 (zR_c 0 rfl) hv cv1) (lg_137 ho) (by decide) rfl (zgV zwd_1177 zwd_1179 zws_47 zwd_13 zwd_1180) rfl pX12_premiumIs rfl ⟨rfl, rfl⟩ ⟨Nat.le_of_ble_eq_true rfl, Nat.le_of_ble_eq_true rfl⟩ [] rfl (Nat.le_of_ble_eq_true rfl) (zd tX12_canBe 3 rfl) [zi r2] rfl (fun p3 => ?_)
  refine z_iconst C (zd tX12_canBe 4 rfl) ?_
  refine z_icmp_ne (tgt := 28) C p3.2 (zR_c 1 rfl) (zd tX12_canBe 5 rfl) (by decide) h (fun h => ?_) (fun h => ?_)
  · refine z_aload_n C (zd tX12_canBe 16 rfl) rfl ?_
    refine gl_12_25 (t := 150) C (lg_137 ho) zic_12 (zm zwd_1015) (vl_12_25 ho p3.1 (lg_137 ho)) (zd tX12_canBe 17 rfl) ?_
    refine z_iload_n C (zd tX12_canBe 18 rfl) rfl ?_
    obtain ⟨q4, h⟩ := zck_some h
    refine za_iald C (lg_150 ho) rfl (by decide) q4 (zd tX12_canBe 19 rfl) ?_
    refine z_iload_n C (zd tX12_canBe 20 rfl) rfl ?_
    refine z_ishr C (zd tX12_canBe 21 rfl) ?_
    refine z_iconst C (zd tX12_canBe 22 rfl) ?_
    refine z_iand C (zd tX12_canBe 23 rfl) ?_
    refine z_iconst C (zd tX12_canBe 24 rfl) ?_
    refine z_icmp_ne (tgt := 46) C (zR_and _ _) (zR_c 1 rfl) (zd tX12_canBe 25 rfl) (by decide) h (fun h => ?_) (fun h => ?_)
    · refine z_iconst C (zd tX12_canBe 28 rfl) ?_
      obtain ⟨rfl, rfl⟩ := zpi h
      exact ret.1 _ _ _ _ ⟨p3.1, (zR_c 0 rfl)⟩ rfl rfl (by decide) (zd tX12_canBe 29 rfl)
    · refine z_iconst C (zd tX12_canBe 26 rfl) ?_
      refine z_goto (tgt := 47) C (zd tX12_canBe 27 rfl) (by decide) ?_
      obtain ⟨rfl, rfl⟩ := zpi h
      exact ret.1 _ _ _ _ ⟨p3.1, (zR_c 1 rfl)⟩ rfl rfl (by decide) (zd tX12_canBe 29 rfl)
  · refine z_iload_n C (zd tX12_canBe 6 rfl) rfl ?_
    refine z_aload_n C (zd tX12_canBe 7 rfl) rfl ?_
    refine z_iload_n C (zd tX12_canBe 8 rfl) rfl ?_
    refine z_iconst C (zd tX12_canBe 9 rfl) ?_
    obtain ⟨v5, r6, cv5, h⟩ := zcl_some h
    refine zc_V C ho hz hRm (qX12_premiumIs _ _ _ _ Rx2 (zR_c 3 rfl) p3.1 cv5) (lg_137 ho) (by decide) rfl (zgV zwd_1177 zwd_1179 zws_47 zwd_13 zwd_1180) rfl pX12_premiumIs rfl ⟨rfl, rfl⟩ ⟨Nat.le_of_ble_eq_true rfl, Nat.le_of_ble_eq_true rfl⟩ [zi x3] rfl (Nat.le_of_ble_eq_true rfl) (zd tX12_canBe 10 rfl) [zi r6, zi x3] rfl (fun p7 => ?_)
    refine z_icmp_lt (tgt := 24) C Rx3 p7.2 (zd tX12_canBe 11 rfl) (by decide) h (fun h => ?_) (fun h => ?_)
    · refine z_iconst C (zd tX12_canBe 14 rfl) ?_
      refine z_goto (tgt := 47) C (zd tX12_canBe 15 rfl) (by decide) ?_
      obtain ⟨rfl, rfl⟩ := zpi h
      exact ret.1 _ _ _ _ ⟨p7.1, (zR_c 0 rfl)⟩ rfl rfl (by decide) (zd tX12_canBe 29 rfl)
    · refine z_iconst C (zd tX12_canBe 12 rfl) ?_
      refine z_goto (tgt := 47) C (zd tX12_canBe 13 rfl) (by decide) ?_
      obtain ⟨rfl, rfl⟩ := zpi h
      exact ret.1 _ _ _ _ ⟨p7.1, (zR_c 1 rfl)⟩ rfl rfl (by decide) (zd tX12_canBe 29 rfl)
noncomputable def vsX12_isWorker : List Cond := .code yX12_isWorker cX12_isWorker 2 (some .boolean) :: zbig
abbrev rmX12_isWorker : Room := { frames := 1, cells := 0, slots := 0, locals := 22 }
theorem pX12_isWorker : yX12_isWorker.cls = RX12 ∧ yX12_isWorker.cls ≠ "java/lang/invoke/MethodHandle" ∧ yX12_isWorker.cls ≠ "java/lang/invoke/VarHandle" ∧ (parseMethodDescriptor yX12_isWorker.desc).map (fun d => d.parameters.length) = some 1 := by decide +kernel
set_option maxRecDepth 100000 in
set_option maxHeartbeats 4000000 in
theorem qX12_isWorker (l : Launch) (D : va_G) (ids : Nat → ClassId) (b : Nat) {x1 : Int} (Rx1 : zR x1) {v v' : zHp} {r' : Int} (hv : zV 137 24 v) (h : fX12_isWorker v x1 = some (v', r')) : zCT l yX12_isWorker vsX12_isWorker rmX12_isWorker D ids b 137 False 24 [zr 137, zi x1] v 24 (zV 137 24 v' ∧ zR r') (some (zi r')) v' 0 0 := by
  refine zMet (own := RX12) (by decide +kernel) (show vsX12_isWorker = _ from rfl) (Nat.le_of_ble_eq_true rfl) rfl ?_
  intro E hl hRm hD hids hb ho hz hN C hname ret
  subst hl hD hids hb
  unfold fX12_isWorker at h
  refine z_iload_n C (zd tX12_isWorker 0 rfl) rfl ?_
  refine z_iconst C (zd tX12_isWorker 1 rfl) ?_
  refine z_iconst C (zd tX12_isWorker 2 rfl) ?_
  obtain ⟨v1, r2, cv1, h⟩ := zcl_some h
  refine zc_S C ho hz hRm (qX12_within _ _ _ _ Rx1 (zR_c 0 rfl) (zR_c 3 rfl) hv cv1) (zgS zwd_1109 zwd_1110 zwd_13 zwd_1111) rfl pX12_within rfl ⟨rfl, rfl⟩ ⟨Nat.le_of_ble_eq_true rfl, Nat.le_of_ble_eq_true rfl⟩ [] rfl (Nat.le_of_ble_eq_true rfl) (zd tX12_isWorker 3 rfl) [zi r2] rfl (fun p3 => ?_)
  obtain ⟨q4, h⟩ := zck_some h
  obtain ⟨rfl, rfl⟩ := zpi h
  exact ret.1 _ _ _ _ ⟨p3.1, p3.2⟩ rfl rfl (zbool_n q4) (zd tX12_isWorker 4 rfl)
noncomputable def vsX12_placeOf : List Cond := .code yX12_placeOf cX12_placeOf 4 (some .int) :: zbig
abbrev rmX12_placeOf : Room := { frames := 0, cells := 0, slots := 0, locals := 0 }
theorem pX12_placeOf : yX12_placeOf.cls = RX12 ∧ yX12_placeOf.cls ≠ "java/lang/invoke/MethodHandle" ∧ yX12_placeOf.cls ≠ "java/lang/invoke/VarHandle" ∧ (parseMethodDescriptor yX12_placeOf.desc).map (fun d => d.parameters.length) = some 2 := by decide +kernel
set_option maxRecDepth 100000 in
set_option maxHeartbeats 4000000 in
theorem bX12_placeOf_L2 {E : zE} (C : zC E 24 cX12_placeOf RX12 vsX12_placeOf) (hN : zEN E = 4) (ho : zEo E = 137) (hz : zEz E = False) (hRm : zER E = rmX12_placeOf) : ∀ (fu : Nat) (v : zHp) (x1 : Int) (x2 : Int) (x3 : Int) (res : ((zHp × Int) ⊕ (zHp × (Int)))), fX12_placeOf_L2 fu v x1 x2 x3 = some res → zV 137 24 v → zR x1 → zR x2 → zR x3 → (∀ (w : zHp) (q : Int), res = .inr (w, q) → zV 137 24 w → True → zX E 0 0 24 w 35 [none, none, none, none] []) → (∀ (w : zHp) (r : Int), res = .inl (w, r) → zRet E cX12_placeOf 0 0 24 (some .int) (zV 137 24 w ∧ zR r) (some (zi r)) w) → zX E 0 0 24 v 2 [some (zr 137), some (zi x1), some (zi x2), some (zi x3)] [] := by
  intro fu
  induction fu with
  | zero =>
    intro v _ _ _ res h
    cases h
  | succ fu ih =>
    intro v x1 x2 x3 res h hv Rx1 Rx2 Rx3 K1 K2
    rw [fX12_placeOf_L2.eq_2] at h
    refine z_iload_n C (zd tX12_placeOf 2 rfl) rfl ?_
    refine z_aload_n C (zd tX12_placeOf 3 rfl) rfl ?_
    refine gl_12_13 (t := 141) C (lg_137 ho) zic_12 (zm zwd_1003) (vl_12_13 ho hv (lg_137 ho)) (zd tX12_placeOf 4 rfl) ?_
    refine z_iload_n C (zd tX12_placeOf 5 rfl) rfl ?_
    obtain ⟨q1, h⟩ := zck_some h
    refine za_iald C (lg_141 ho) rfl (by decide) q1 (zd tX12_placeOf 6 rfl) ?_
    refine z_icmp_ge (tgt := 35) C Rx3 (hv.1 _ _) (zd tX12_placeOf 7 rfl) (by decide) h (fun h => ?_) (fun h => ?_)
    · refine z_sub (lo' := [none, none, none, none]) (zsub_n (zsub_n (zsub_n (zsub_n zsub_0)))) ?_
      exact K1 _ _ (Option.some.inj h).symm hv trivial
    · refine z_aload_n C (zd tX12_placeOf 8 rfl) rfl ?_
      refine gl_12_14 (t := 142) C (lg_137 ho) zic_12 (zm zwd_1004) (vl_12_14 ho hv (lg_137 ho)) (zd tX12_placeOf 9 rfl) ?_
      refine z_bipush C (by decide) (zd tX12_placeOf 10 rfl) ?_
      refine z_iload_n C (zd tX12_placeOf 11 rfl) rfl ?_
      refine z_imul C (zd tX12_placeOf 12 rfl) ?_
      refine z_iload_n C (zd tX12_placeOf 13 rfl) rfl ?_
      refine z_iadd C (zd tX12_placeOf 14 rfl) ?_
      obtain ⟨q2, h⟩ := zck_some h
      refine za_iald C (lg_142 ho) rfl (by decide) q2 (zd tX12_placeOf 15 rfl) ?_
      refine z_iload_n C (zd tX12_placeOf 16 rfl) rfl ?_
      refine z_icmp_ne (tgt := 29) C (hv.1 _ _) Rx2 (zd tX12_placeOf 17 rfl) (by decide) h (fun h => ?_) (fun h => ?_)
      · obtain ⟨t3, et3, Rt3, h⟩ := zn_some h
        refine z_iincE C (zd tX12_placeOf 20 rfl) (by rw [hN]; decide) rfl et3 ?_
        refine z_goto (tgt := 2) C (zd tX12_placeOf 21 rfl) (by decide) ?_
        refine z_sub (lo' := [some (zr 137), some (zi x1), some (zi x2), some (zi t3)]) (zsub_s (zsub_s (zsub_s (zsub_s zsub_0)))) ?_
        exact ih v x1 x2 t3 _ h hv Rx1 Rx2 Rt3 K1 K2
      · refine z_iload_n C (zd tX12_placeOf 18 rfl) rfl ?_
        have K2 := K2 _ _ (Option.some.inj h).symm
        exact K2.1 _ _ _ _ ⟨hv, Rx3⟩ rfl rfl rfl (zd tX12_placeOf 19 rfl)
set_option maxRecDepth 100000 in
set_option maxHeartbeats 4000000 in
theorem qX12_placeOf (l : Launch) (D : va_G) (ids : Nat → ClassId) (b : Nat) {x1 : Int} (Rx1 : zR x1) {x2 : Int} (Rx2 : zR x2) {v v' : zHp} {r' : Int} (hv : zV 137 24 v) (h : fX12_placeOf v x1 x2 = some (v', r')) : zCT l yX12_placeOf vsX12_placeOf rmX12_placeOf D ids b 137 False 24 [zr 137, zi x1, zi x2] v 24 (zV 137 24 v' ∧ zR r') (some (zi r')) v' 0 0 := by
  refine zMet (own := RX12) (by decide +kernel) (show vsX12_placeOf = _ from rfl) (Nat.le_of_ble_eq_true rfl) rfl ?_
  intro E hl hRm hD hids hb ho hz hN C hname ret
  subst hl hD hids hb
  unfold fX12_placeOf at h
  refine z_iconst C (zd tX12_placeOf 0 rfl) ?_
  refine z_istore_n C (zd tX12_placeOf 1 rfl) (by rw [hN]; decide) ?_
  refine z_sub (lo' := [some (zr 137), some (zi x1), some (zi x2), some (zi 0)]) (zsub_s (zsub_s (zsub_s (zsub_s zsub_0)))) ?_
  rcases zlf_some h with lv4 | ⟨v4, w5, lv4, h⟩
  · exact bX12_placeOf_L2 C hN ho hz hRm zFU v x1 x2 0 _ lv4 hv Rx1 Rx2 (zR_c 0 rfl) (fun _ _ e => by cases e) (fun _ _ e => by obtain ⟨rfl, rfl⟩ := zpp (Sum.inl.inj e); exact ret)
  · refine bX12_placeOf_L2 C hN ho hz hRm zFU v x1 x2 0 _ lv4 hv Rx1 Rx2 (zR_c 0 rfl) (fun w1 q1 e1 hv4 Rw5 => ?_) (fun _ _ e => by cases e)
    obtain ⟨rfl, rfl⟩ := zpp (Sum.inr.inj e1)
    refine z_iconst C (zd tX12_placeOf 22 rfl) ?_
    obtain ⟨rfl, rfl⟩ := zpi h
    exact ret.1 _ _ _ _ ⟨hv4, (zR_c (-1) rfl)⟩ rfl rfl rfl (zd tX12_placeOf 23 rfl)
noncomputable def vsX12_canCome : List Cond := .code yX12_canCome cX12_canCome 4 (some .boolean) :: zbig
abbrev rmX12_canCome : Room := { frames := 2, cells := 0, slots := 0, locals := 43 }
theorem pX12_canCome : yX12_canCome.cls = RX12 ∧ yX12_canCome.cls ≠ "java/lang/invoke/MethodHandle" ∧ yX12_canCome.cls ≠ "java/lang/invoke/VarHandle" ∧ (parseMethodDescriptor yX12_canCome.desc).map (fun d => d.parameters.length) = some 3 := by decide +kernel
set_option maxRecDepth 100000 in
set_option maxHeartbeats 4000000 in
theorem qX12_canCome (l : Launch) (D : va_G) (ids : Nat → ClassId) (b : Nat) {x1 : Int} (Rx1 : zR x1) {x2 : Int} (Rx2 : zR x2) {x3 : Int} (Rx3 : zR x3) {v v' : zHp} {r' : Int} (hv : zV 137 24 v) (h : fX12_canCome v x1 x2 x3 = some (v', r')) : zCT l yX12_canCome vsX12_canCome rmX12_canCome D ids b 137 False 24 [zr 137, zi x1, zi x2, zi x3] v 24 (zV 137 24 v' ∧ zR r') (some (zi r')) v' 0 0 := by
  refine zMet (own := RX12) (by decide +kernel) (show vsX12_canCome = _ from rfl) (Nat.le_of_ble_eq_true rfl) rfl ?_
  intro E hl hRm hD hids hb ho hz hN C hname ret
  subst hl hD hids hb
  unfold fX12_canCome at h
  refine z_aload_n C (zd tX12_canCome 0 rfl) rfl ?_
  refine z_iload_n C (zd tX12_canCome 1 rfl) rfl ?_
  obtain ⟨v1, r2, cv1, h⟩ := zcl_some h
  refine zc_V C ho hz hRm (qX12_isWorker _ _ _ _ Rx1 hv cv1) (lg_137 ho) (by decide) rfl (zgV zwd_1211 zwd_1213 zws_52 zwd_13 zwd_1214) rfl pX12_isWorker rfl ⟨rfl, rfl⟩ ⟨Nat.le_of_ble_eq_true rfl, Nat.le_of_ble_eq_true rfl⟩ [] rfl (Nat.le_of_ble_eq_true rfl) (zd tX12_canCome 2 rfl) [zi r2] rfl (fun p3 => ?_)
  refine z_if_eq (tgt := 47) C p3.2 (zd tX12_canCome 3 rfl) (by decide) h (fun h => ?_) (fun h => ?_)
  · refine z_iconst C (zd tX12_canCome 26 rfl) ?_
    obtain ⟨rfl, rfl⟩ := zpi h
    exact ret.1 _ _ _ _ ⟨p3.1, (zR_c 0 rfl)⟩ rfl rfl (by decide) (zd tX12_canCome 27 rfl)
  · refine z_iload_n C (zd tX12_canCome 4 rfl) rfl ?_
    refine z_iconst C (zd tX12_canCome 5 rfl) ?_
    refine z_iconst C (zd tX12_canCome 6 rfl) ?_
    obtain ⟨v4, r5, cv4, h⟩ := zcl_some h
    refine zc_S C ho hz hRm (qX12_within _ _ _ _ Rx2 (zR_c 0 rfl) (zR_c 2 rfl) p3.1 cv4) (zgS zwd_1109 zwd_1110 zwd_13 zwd_1111) rfl pX12_within rfl ⟨rfl, rfl⟩ ⟨Nat.le_of_ble_eq_true rfl, Nat.le_of_ble_eq_true rfl⟩ [] rfl (Nat.le_of_ble_eq_true rfl) (zd tX12_canCome 7 rfl) [zi r5] rfl (fun p6 => ?_)
    refine z_if_eq (tgt := 47) C p6.2 (zd tX12_canCome 8 rfl) (by decide) h (fun h => ?_) (fun h => ?_)
    · refine z_iconst C (zd tX12_canCome 26 rfl) ?_
      obtain ⟨rfl, rfl⟩ := zpi h
      exact ret.1 _ _ _ _ ⟨p6.1, (zR_c 0 rfl)⟩ rfl rfl (by decide) (zd tX12_canCome 27 rfl)
    · refine z_iload_n C (zd tX12_canCome 9 rfl) rfl ?_
      refine z_iconst C (zd tX12_canCome 10 rfl) ?_
      refine z_icmp_eq (tgt := 47) C Rx3 (zR_c (-1) rfl) (zd tX12_canCome 11 rfl) (by decide) h (fun h => ?_) (fun h => ?_)
      · refine z_iconst C (zd tX12_canCome 26 rfl) ?_
        obtain ⟨rfl, rfl⟩ := zpi h
        exact ret.1 _ _ _ _ ⟨p6.1, (zR_c 0 rfl)⟩ rfl rfl (by decide) (zd tX12_canCome 27 rfl)
      · refine z_aload_n C (zd tX12_canCome 12 rfl) rfl ?_
        refine gl_12_13 (t := 141) C (lg_137 ho) zic_12 (zm zwd_1003) (vl_12_13 ho p6.1 (lg_137 ho)) (zd tX12_canCome 13 rfl) ?_
        refine z_iload_n C (zd tX12_canCome 14 rfl) rfl ?_
        obtain ⟨q7, h⟩ := zck_some h
        refine za_iald C (lg_141 ho) rfl (by decide) q7 (zd tX12_canCome 15 rfl) ?_
        refine z_bipush C (by decide) (zd tX12_canCome 16 rfl) ?_
        refine z_icmp_ge (tgt := 47) C (p6.1.1 _ _) (zR_c 60 rfl) (zd tX12_canCome 17 rfl) (by decide) h (fun h => ?_) (fun h => ?_)
        · refine z_iconst C (zd tX12_canCome 26 rfl) ?_
          obtain ⟨rfl, rfl⟩ := zpi h
          exact ret.1 _ _ _ _ ⟨p6.1, (zR_c 0 rfl)⟩ rfl rfl (by decide) (zd tX12_canCome 27 rfl)
        · refine z_aload_n C (zd tX12_canCome 18 rfl) rfl ?_
          refine z_iload_n C (zd tX12_canCome 19 rfl) rfl ?_
          refine z_iload_n C (zd tX12_canCome 20 rfl) rfl ?_
          obtain ⟨v8, r9, cv8, h⟩ := zcl_some h
          refine zc_V C ho hz hRm (qX12_placeOf _ _ _ _ Rx1 Rx3 p6.1 cv8) (lg_137 ho) (by decide) rfl (zgV zwd_1215 zwd_1217 zws_53 zwd_13 zwd_1218) rfl pX12_placeOf rfl ⟨rfl, rfl⟩ ⟨Nat.le_of_ble_eq_true rfl, Nat.le_of_ble_eq_true rfl⟩ [] rfl (Nat.le_of_ble_eq_true rfl) (zd tX12_canCome 21 rfl) [zi r9] rfl (fun p10 => ?_)
          refine z_iconst C (zd tX12_canCome 22 rfl) ?_
          refine z_icmp_ne (tgt := 47) C p10.2 (zR_c (-1) rfl) (zd tX12_canCome 23 rfl) (by decide) h (fun h => ?_) (fun h => ?_)
          · refine z_iconst C (zd tX12_canCome 26 rfl) ?_
            obtain ⟨rfl, rfl⟩ := zpi h
            exact ret.1 _ _ _ _ ⟨p10.1, (zR_c 0 rfl)⟩ rfl rfl (by decide) (zd tX12_canCome 27 rfl)
          · refine z_iconst C (zd tX12_canCome 24 rfl) ?_
            refine z_goto (tgt := 48) C (zd tX12_canCome 25 rfl) (by decide) ?_
            obtain ⟨rfl, rfl⟩ := zpi h
            exact ret.1 _ _ _ _ ⟨p10.1, (zR_c 1 rfl)⟩ rfl rfl (by decide) (zd tX12_canCome 27 rfl)
noncomputable def vsX12_clearsDraft : List Cond := .code yX12_clearsDraft cX12_clearsDraft 2 none :: zbig
abbrev rmX12_clearsDraft : Room := { frames := 0, cells := 0, slots := 0, locals := 0 }
theorem pX12_clearsDraft : yX12_clearsDraft.cls = RX12 ∧ yX12_clearsDraft.cls ≠ "java/lang/invoke/MethodHandle" ∧ yX12_clearsDraft.cls ≠ "java/lang/invoke/VarHandle" ∧ (parseMethodDescriptor yX12_clearsDraft.desc).map (fun d => d.parameters.length) = some 0 := by decide +kernel
set_option maxRecDepth 100000 in
set_option maxHeartbeats 4000000 in
theorem bX12_clearsDraft_L2 {E : zE} (C : zC E 24 cX12_clearsDraft RX12 vsX12_clearsDraft) (hN : zEN E = 2) (ho : zEo E = 137) (hz : zEz E = False) (hRm : zER E = rmX12_clearsDraft) : ∀ (fu : Nat) (v : zHp) (x1 : Int) (res : (zHp × (Int))), fX12_clearsDraft_L2 fu v x1 = some res → zV 137 24 v → zR x1 → (∀ (w : zHp) (q : Int), res = (w, q) → zV 137 24 w → True → zX E 0 0 24 w 21 [some (zr 137), none] []) → zX E 0 0 24 v 2 [some (zr 137), some (zi x1)] [] := by
  intro fu
  induction fu with
  | zero =>
    intro v _ res h
    cases h
  | succ fu ih =>
    intro v x1 res h hv Rx1 K1
    rw [fX12_clearsDraft_L2.eq_2] at h
    refine z_iload_n C (zd tX12_clearsDraft 2 rfl) rfl ?_
    refine z_bipush C (by decide) (zd tX12_clearsDraft 3 rfl) ?_
    refine z_icmp_ge (tgt := 21) C Rx1 (zR_c 51 rfl) (zd tX12_clearsDraft 4 rfl) (by decide) h (fun h => ?_) (fun h => ?_)
    · refine z_sub (lo' := [some (zr 137), none]) (zsub_s (zsub_n zsub_0)) ?_
      exact K1 _ _ (Option.some.inj h).symm hv trivial
    · refine z_aload_n C (zd tX12_clearsDraft 5 rfl) rfl ?_
      refine gl_12_11 (t := 140) C (lg_137 ho) zic_12 (zm zwd_1001) (vl_12_11 ho hv (lg_137 ho)) (zd tX12_clearsDraft 6 rfl) ?_
      refine z_iload_n C (zd tX12_clearsDraft 7 rfl) rfl ?_
      refine z_iconst C (zd tX12_clearsDraft 8 rfl) ?_
      obtain ⟨q1, h⟩ := zck_some h
      obtain ⟨v2, ev2, h⟩ := zb_some h
      have hv2 : zV 137 24 v2 := by rw [ev2]; exact hv.st (zR_c 0 rfl) (lg_140 ho).1 (Or.inr rfl)
      refine za_iast C (lg_140 ho) rfl (by decide) q1 ev2 (zd tX12_clearsDraft 9 rfl) ?_
      obtain ⟨t3, et3, Rt3, h⟩ := zn_some h
      refine z_iincE C (zd tX12_clearsDraft 10 rfl) (by rw [hN]; decide) rfl et3 ?_
      refine z_goto (tgt := 2) C (zd tX12_clearsDraft 11 rfl) (by decide) ?_
      refine z_sub (lo' := [some (zr 137), some (zi t3)]) (zsub_s (zsub_s zsub_0)) ?_
      exact ih v2 t3 _ h hv2 Rt3 K1
set_option maxRecDepth 100000 in
set_option maxHeartbeats 4000000 in
theorem qX12_clearsDraft (l : Launch) (D : va_G) (ids : Nat → ClassId) (b : Nat)  {v v' : zHp} {r' : Int} (hv : zV 137 24 v) (h : fX12_clearsDraft v = some (v', r')) : zCT l yX12_clearsDraft vsX12_clearsDraft rmX12_clearsDraft D ids b 137 False 24 [zr 137] v 24 (zV 137 24 v') none v' 0 0 := by
  refine zMet (own := RX12) (by decide +kernel) (show vsX12_clearsDraft = _ from rfl) (Nat.le_of_ble_eq_true rfl) rfl ?_
  intro E hl hRm hD hids hb ho hz hN C hname ret
  subst hl hD hids hb
  unfold fX12_clearsDraft at h
  refine z_iconst C (zd tX12_clearsDraft 0 rfl) ?_
  refine z_istore_n C (zd tX12_clearsDraft 1 rfl) (by rw [hN]; decide) ?_
  refine z_sub (lo' := [some (zr 137), some (zi 0)]) (zsub_s (zsub_s zsub_0)) ?_
  obtain ⟨v4, w5, lv4, h⟩ := zl_some h
  refine bX12_clearsDraft_L2 C hN ho hz hRm zFU v 0 _ lv4 hv (zR_c 0 rfl) (fun w1 q1 e1 hv4 Rw5 => ?_)
  obtain ⟨rfl, rfl⟩ := zpp e1
  refine z_aload_n C (zd tX12_clearsDraft 12 rfl) rfl ?_
  refine gl_12_11 (t := 140) C (lg_137 ho) zic_12 (zm zwd_1001) (vl_12_11 ho hv4 (lg_137 ho)) (zd tX12_clearsDraft 13 rfl) ?_
  refine z_iconst C (zd tX12_clearsDraft 14 rfl) ?_
  refine z_bipush C (by decide) (zd tX12_clearsDraft 15 rfl) ?_
  obtain ⟨q6, h⟩ := zck_some h
  obtain ⟨v7, ev7, h⟩ := zb_some h
  have hv7 : zV 137 24 v7 := by rw [ev7]; exact hv4.st (zR_c 7 rfl) (lg_140 ho).1 (Or.inr rfl)
  refine za_iast C (lg_140 ho) rfl (by decide) q6 ev7 (zd tX12_clearsDraft 16 rfl) ?_
  refine z_aload_n C (zd tX12_clearsDraft 17 rfl) rfl ?_
  refine gl_12_11 (t := 140) C (lg_137 ho) zic_12 (zm zwd_1001) (vl_12_11 ho hv7 (lg_137 ho)) (zd tX12_clearsDraft 18 rfl) ?_
  refine z_iconst C (zd tX12_clearsDraft 19 rfl) ?_
  refine z_bipush C (by decide) (zd tX12_clearsDraft 20 rfl) ?_
  obtain ⟨q8, h⟩ := zck_some h
  obtain ⟨v9, ev9, h⟩ := zb_some h
  have hv9 : zV 137 24 v9 := by rw [ev9]; exact hv7.st (zR_c 16 rfl) (lg_140 ho).1 (Or.inr rfl)
  refine za_iast C (lg_140 ho) rfl (by decide) q8 ev9 (zd tX12_clearsDraft 21 rfl) ?_
  refine z_aload_n C (zd tX12_clearsDraft 22 rfl) rfl ?_
  refine gl_12_11 (t := 140) C (lg_137 ho) zic_12 (zm zwd_1001) (vl_12_11 ho hv9 (lg_137 ho)) (zd tX12_clearsDraft 23 rfl) ?_
  refine z_iconst C (zd tX12_clearsDraft 24 rfl) ?_
  refine z_bipush C (by decide) (zd tX12_clearsDraft 25 rfl) ?_
  obtain ⟨q10, h⟩ := zck_some h
  obtain ⟨v11, ev11, h⟩ := zb_some h
  have hv11 : zV 137 24 v11 := by rw [ev11]; exact hv9.st (zR_c 100 rfl) (lg_140 ho).1 (Or.inr rfl)
  refine za_iast C (lg_140 ho) rfl (by decide) q10 ev11 (zd tX12_clearsDraft 26 rfl) ?_
  refine z_aload_n C (zd tX12_clearsDraft 27 rfl) rfl ?_
  refine gl_12_11 (t := 140) C (lg_137 ho) zic_12 (zm zwd_1001) (vl_12_11 ho hv11 (lg_137 ho)) (zd tX12_clearsDraft 28 rfl) ?_
  refine z_iconst C (zd tX12_clearsDraft 29 rfl) ?_
  refine z_iconst C (zd tX12_clearsDraft 30 rfl) ?_
  obtain ⟨q12, h⟩ := zck_some h
  obtain ⟨v13, ev13, h⟩ := zb_some h
  have hv13 : zV 137 24 v13 := by rw [ev13]; exact hv11.st (zR_c (-1) rfl) (lg_140 ho).1 (Or.inr rfl)
  refine za_iast C (lg_140 ho) rfl (by decide) q12 ev13 (zd tX12_clearsDraft 31 rfl) ?_
  refine z_aload_n C (zd tX12_clearsDraft 32 rfl) rfl ?_
  refine gl_12_11 (t := 140) C (lg_137 ho) zic_12 (zm zwd_1001) (vl_12_11 ho hv13 (lg_137 ho)) (zd tX12_clearsDraft 33 rfl) ?_
  refine z_bipush C (by decide) (zd tX12_clearsDraft 34 rfl) ?_
  refine z_iconst C (zd tX12_clearsDraft 35 rfl) ?_
  obtain ⟨q14, h⟩ := zck_some h
  obtain ⟨v15, ev15, h⟩ := zb_some h
  have hv15 : zV 137 24 v15 := by rw [ev15]; exact hv13.st (zR_c (-1) rfl) (lg_140 ho).1 (Or.inr rfl)
  refine za_iast C (lg_140 ho) rfl (by decide) q14 ev15 (zd tX12_clearsDraft 36 rfl) ?_
  refine z_aload_n C (zd tX12_clearsDraft 37 rfl) rfl ?_
  refine gl_12_11 (t := 140) C (lg_137 ho) zic_12 (zm zwd_1001) (vl_12_11 ho hv15 (lg_137 ho)) (zd tX12_clearsDraft 38 rfl) ?_
  refine z_bipush C (by decide) (zd tX12_clearsDraft 39 rfl) ?_
  refine z_iconst C (zd tX12_clearsDraft 40 rfl) ?_
  obtain ⟨q16, h⟩ := zck_some h
  obtain ⟨v17, ev17, h⟩ := zb_some h
  have hv17 : zV 137 24 v17 := by rw [ev17]; exact hv15.st (zR_c (-1) rfl) (lg_140 ho).1 (Or.inr rfl)
  refine za_iast C (lg_140 ho) rfl (by decide) q16 ev17 (zd tX12_clearsDraft 41 rfl) ?_
  refine z_aload_n C (zd tX12_clearsDraft 42 rfl) rfl ?_
  refine z_iconst C (zd tX12_clearsDraft 43 rfl) ?_
  obtain ⟨v18, ev18, h⟩ := zb_some h
  have hv18 : zV 137 24 v18 := by rw [ev18]; exact hv17.st (zR_c 0 rfl) (lg_137 ho).1 (Or.inr rfl)
  refine pf_12_12 C (lg_137 ho) zic_12 (zm zwd_1002) ev18 (zd tX12_clearsDraft 44 rfl) ?_
  obtain ⟨rfl, rfl⟩ := zpi h
  exact ret.2.1 _ _ hv18 rfl rfl (zd tX12_clearsDraft 45 rfl)
noncomputable def vsX12_clock : List Cond := .code yX12_clock cX12_clock 5 (some .int) :: zbig
abbrev rmX12_clock : Room := { frames := 2, cells := 0, slots := 0, locals := 44 }
theorem pX12_clock : yX12_clock.cls = RX12 ∧ yX12_clock.cls ≠ "java/lang/invoke/MethodHandle" ∧ yX12_clock.cls ≠ "java/lang/invoke/VarHandle" ∧ (parseMethodDescriptor yX12_clock.desc).map (fun d => d.parameters.length) = some 2 := by decide +kernel
set_option maxRecDepth 100000 in
set_option maxHeartbeats 4000000 in
theorem jX12_clock_J88 {E : zE} (C : zC E 24 cX12_clock RX12 vsX12_clock) (hN : zEN E = 5) (ho : zEo E = 137) (hz : zEz E = False) (hRm : zER E = rmX12_clock) {v' : zHp} {r' : Int} (ret : zRet E cX12_clock 0 0 24 (some .int) (zV 137 24 v' ∧ zR r') (some (zi r')) v') (v : zHp) (x2 : Int) (x3 : Int) (s0 : Int) (h : fX12_clock_J88 v x2 x3 s0 = some (v', r')) (hv : zV 137 24 v) (Rx2 : zR x2) (Rx3 : zR x3) (Rs0 : zR s0) : zX E 0 0 24 v 88 [none, none, some (zi x2), some (zi x3), none] [zi s0] := by
  unfold fX12_clock_J88 at h
  refine z_istore C (zd tX12_clock 50 rfl) (by rw [hN]; decide) ?_
  refine z_iload_n C (zd tX12_clock 51 rfl) rfl ?_
  refine z_if_ne (tgt := 102) C Rx2 (zd tX12_clock 52 rfl) (by decide) h (fun h => ?_) (fun h => ?_)
  · refine z_iload_n C (zd tX12_clock 57 rfl) rfl ?_
    refine z_iconst C (zd tX12_clock 58 rfl) ?_
    refine z_icmp_ne (tgt := 115) C Rx2 (zR_c 1 rfl) (zd tX12_clock 59 rfl) (by decide) h (fun h => ?_) (fun h => ?_)
    · refine z_iload C (zd tX12_clock 64 rfl) rfl ?_
      refine z_if_eq (tgt := 124) C Rs0 (zd tX12_clock 65 rfl) (by decide) h (fun h => ?_) (fun h => ?_)
      · refine z_iconst C (zd tX12_clock 68 rfl) ?_
        obtain ⟨rfl, rfl⟩ := zpi h
        exact ret.1 _ _ _ _ ⟨hv, (zR_c 0 rfl)⟩ rfl rfl rfl (zd tX12_clock 69 rfl)
      · refine z_iconst C (zd tX12_clock 66 rfl) ?_
        refine z_goto (tgt := 125) C (zd tX12_clock 67 rfl) (by decide) ?_
        obtain ⟨rfl, rfl⟩ := zpi h
        exact ret.1 _ _ _ _ ⟨hv, (zR_c 1 rfl)⟩ rfl rfl rfl (zd tX12_clock 69 rfl)
    · refine z_iload_n C (zd tX12_clock 60 rfl) rfl ?_
      refine z_sipush C (by decide) (zd tX12_clock 61 rfl) ?_
      refine z_irem C Rx3 (by decide) (zR_c 1440 rfl) (zd tX12_clock 62 rfl) ?_
      refine z_goto (tgt := 125) C (zd tX12_clock 63 rfl) (by decide) ?_
      obtain ⟨rfl, rfl⟩ := zpi h
      exact ret.1 _ _ _ _ ⟨hv, (zR_mod (by decide) (zR_c 1440 rfl))⟩ rfl rfl rfl (zd tX12_clock 69 rfl)
  · refine z_iload_n C (zd tX12_clock 53 rfl) rfl ?_
    refine z_sipush C (by decide) (zd tX12_clock 54 rfl) ?_
    refine z_idiv C Rx3 (by decide) (zR_c 1440 rfl) (zd tX12_clock 55 rfl) ?_
    refine z_goto (tgt := 125) C (zd tX12_clock 56 rfl) (by decide) ?_
    obtain ⟨rfl, rfl⟩ := zpi h
    exact ret.1 _ _ _ _ ⟨hv, (zR_div Rx3 (by decide))⟩ rfl rfl rfl (zd tX12_clock 69 rfl)
set_option maxRecDepth 100000 in
set_option maxHeartbeats 4000000 in
theorem jX12_clock_J87 {E : zE} (C : zC E 24 cX12_clock RX12 vsX12_clock) (hN : zEN E = 5) (ho : zEo E = 137) (hz : zEz E = False) (hRm : zER E = rmX12_clock) {v' : zHp} {r' : Int} (ret : zRet E cX12_clock 0 0 24 (some .int) (zV 137 24 v' ∧ zR r') (some (zi r')) v') (v : zHp) (x2 : Int) (x3 : Int) (h : fX12_clock_J87 v x2 x3 = some (v', r')) (hv : zV 137 24 v) (Rx2 : zR x2) (Rx3 : zR x3) : zX E 0 0 24 v 87 [none, none, some (zi x2), some (zi x3), none] [] := by
  unfold fX12_clock_J87 at h
  refine z_iconst C (zd tX12_clock 49 rfl) ?_
  refine z_sub (lo' := [none, none, some (zi x2), some (zi x3), none]) (zsub_n (zsub_n (zsub_s (zsub_s (zsub_n zsub_0))))) ?_
  exact jX12_clock_J88 C hN ho hz hRm ret v x2 x3 0 h hv Rx2 Rx3 (zR_c 0 rfl)
set_option maxRecDepth 100000 in
set_option maxHeartbeats 4000000 in
theorem jX12_clock_J24 {E : zE} (C : zC E 24 cX12_clock RX12 vsX12_clock) (hN : zEN E = 5) (ho : zEo E = 137) (hz : zEz E = False) (hRm : zER E = rmX12_clock) {v' : zHp} {r' : Int} (ret : zRet E cX12_clock 0 0 24 (some .int) (zV 137 24 v' ∧ zR r') (some (zi r')) v') (v : zHp) (x1 : Int) (x2 : Int) (s0 : Int) (h : fX12_clock_J24 v x1 x2 s0 = some (v', r')) (hv : zV 137 24 v) (Rx1 : zR x1) (Rx2 : zR x2) (Rs0 : zR s0) : zX E 0 0 24 v 24 [some (zr 137), some (zi x1), some (zi x2), none, none] [zi s0] := by
  unfold fX12_clock_J24 at h
  refine z_istore_n C (zd tX12_clock 13 rfl) (by rw [hN]; decide) ?_
  refine z_iload_n C (zd tX12_clock 14 rfl) rfl ?_
  refine z_iconst C (zd tX12_clock 15 rfl) ?_
  refine z_icmp_eq (tgt := 39) C Rs0 (zR_c (-1) rfl) (zd tX12_clock 16 rfl) (by decide) h (fun h => ?_) (fun h => ?_)
  · refine z_iconst C (zd tX12_clock 22 rfl) ?_
    obtain ⟨rfl, rfl⟩ := zpi h
    exact ret.1 _ _ _ _ ⟨hv, (zR_c (-1) rfl)⟩ rfl rfl rfl (zd tX12_clock 23 rfl)
  · refine z_iload_n C (zd tX12_clock 17 rfl) rfl ?_
    refine z_iconst C (zd tX12_clock 18 rfl) ?_
    refine z_iconst C (zd tX12_clock 19 rfl) ?_
    obtain ⟨v2, r3, cv2, h⟩ := zcl_some h
    refine zc_S C ho hz hRm (qX12_within _ _ _ _ Rx2 (zR_c 0 rfl) (zR_c 2 rfl) hv cv2) (zgS zwd_1109 zwd_1110 zwd_13 zwd_1111) rfl pX12_within rfl ⟨rfl, rfl⟩ ⟨Nat.le_of_ble_eq_true rfl, Nat.le_of_ble_eq_true rfl⟩ [] rfl (Nat.le_of_ble_eq_true rfl) (zd tX12_clock 20 rfl) [zi r3] rfl (fun p4 => ?_)
    refine z_if_ne (tgt := 41) C p4.2 (zd tX12_clock 21 rfl) (by decide) h (fun h => ?_) (fun h => ?_)
    · refine z_aload_n C (zd tX12_clock 24 rfl) rfl ?_
      refine gl_12_10 (t := 139) C (lg_137 ho) zic_12 (zm zwd_1000) (vl_12_10 ho p4.1 (lg_137 ho)) (zd tX12_clock 25 rfl) ?_
      refine z_iconst C (zd tX12_clock 26 rfl) ?_
      obtain ⟨q5, h⟩ := zck_some h
      refine za_iald C (lg_139 ho) rfl (by decide) q5 (zd tX12_clock 27 rfl) ?_
      refine z_iconst C (zd tX12_clock 28 rfl) ?_
      refine z_icmp_eq (tgt := 87) C (p4.1.1 _ _) (zR_c (-1) rfl) (zd tX12_clock 29 rfl) (by decide) h (fun h => ?_) (fun h => ?_)
      · refine z_sub (lo' := [none, none, some (zi x2), some (zi s0), none]) (zsub_n (zsub_n (zsub_s (zsub_s (zsub_n zsub_0))))) ?_
        exact jX12_clock_J87 C hN ho hz hRm ret v2 x2 s0 h p4.1 Rx2 Rs0
      · refine z_aload_n C (zd tX12_clock 30 rfl) rfl ?_
        refine gl_12_10 (t := 139) C (lg_137 ho) zic_12 (zm zwd_1000) (vl_12_10 ho p4.1 (lg_137 ho)) (zd tX12_clock 31 rfl) ?_
        refine z_bipush C (by decide) (zd tX12_clock 32 rfl) ?_
        obtain ⟨q6, h⟩ := zck_some h
        refine za_iald C (lg_139 ho) rfl (by decide) q6 (zd tX12_clock 33 rfl) ?_
        refine z_if_ne (tgt := 87) C (p4.1.1 _ _) (zd tX12_clock 34 rfl) (by decide) h (fun h => ?_) (fun h => ?_)
        · refine z_sub (lo' := [none, none, some (zi x2), some (zi s0), none]) (zsub_n (zsub_n (zsub_s (zsub_s (zsub_n zsub_0))))) ?_
          exact jX12_clock_J87 C hN ho hz hRm ret v2 x2 s0 h p4.1 Rx2 Rs0
        · refine z_iload_n C (zd tX12_clock 35 rfl) rfl ?_
          refine z_aload_n C (zd tX12_clock 36 rfl) rfl ?_
          obtain ⟨v7, r8, cv7, h⟩ := zcl_some h
          refine zc_V C ho hz hRm (qX12_turned _ _ _ _ p4.1 cv7) (lg_137 ho) (by decide) rfl (zgV zwd_1189 zwd_1191 zws_49 zwd_13 zwd_1192) rfl pX12_turned rfl ⟨rfl, rfl⟩ ⟨Nat.le_of_ble_eq_true rfl, Nat.le_of_ble_eq_true rfl⟩ [zi x1] rfl (Nat.le_of_ble_eq_true rfl) (zd tX12_clock 37 rfl) [zi r8, zi x1] rfl (fun p9 => ?_)
          refine z_bipush C (by decide) (zd tX12_clock 38 rfl) ?_
          refine z_iadd C (zd tX12_clock 39 rfl) ?_
          obtain ⟨t10, et10, Rt10, h⟩ := zn_some h
          refine z_n0 (congrArg zI et10.symm) ?_
          refine z_icmp_lt (tgt := 87) C Rx1 Rt10 (zd tX12_clock 40 rfl) (by decide) h (fun h => ?_) (fun h => ?_)
          · refine z_sub (lo' := [none, none, some (zi x2), some (zi s0), none]) (zsub_n (zsub_n (zsub_s (zsub_s (zsub_n zsub_0))))) ?_
            exact jX12_clock_J87 C hN ho hz hRm ret v7 x2 s0 h p9.1 Rx2 Rs0
          · refine z_iload_n C (zd tX12_clock 41 rfl) rfl ?_
            refine z_aload_n C (zd tX12_clock 42 rfl) rfl ?_
            obtain ⟨v11, r12, cv11, h⟩ := zcl_some h
            refine zc_V C ho hz hRm (qX12_turned _ _ _ _ p9.1 cv11) (lg_137 ho) (by decide) rfl (zgV zwd_1189 zwd_1191 zws_49 zwd_13 zwd_1192) rfl pX12_turned rfl ⟨rfl, rfl⟩ ⟨Nat.le_of_ble_eq_true rfl, Nat.le_of_ble_eq_true rfl⟩ [zi x1] rfl (Nat.le_of_ble_eq_true rfl) (zd tX12_clock 43 rfl) [zi r12, zi x1] rfl (fun p13 => ?_)
            refine z_bipush C (by decide) (zd tX12_clock 44 rfl) ?_
            refine z_iadd C (zd tX12_clock 45 rfl) ?_
            obtain ⟨t14, et14, Rt14, h⟩ := zn_some h
            refine z_n0 (congrArg zI et14.symm) ?_
            refine z_icmp_ge (tgt := 87) C Rx1 Rt14 (zd tX12_clock 46 rfl) (by decide) h (fun h => ?_) (fun h => ?_)
            · refine z_sub (lo' := [none, none, some (zi x2), some (zi s0), none]) (zsub_n (zsub_n (zsub_s (zsub_s (zsub_n zsub_0))))) ?_
              exact jX12_clock_J87 C hN ho hz hRm ret v11 x2 s0 h p13.1 Rx2 Rs0
            · refine z_iconst C (zd tX12_clock 47 rfl) ?_
              refine z_goto (tgt := 88) C (zd tX12_clock 48 rfl) (by decide) ?_
              refine z_sub (lo' := [none, none, some (zi x2), some (zi s0), none]) (zsub_n (zsub_n (zsub_s (zsub_s (zsub_n zsub_0))))) ?_
              exact jX12_clock_J88 C hN ho hz hRm ret v11 x2 s0 1 h p13.1 Rx2 Rs0 (zR_c 1 rfl)
    · refine z_iconst C (zd tX12_clock 22 rfl) ?_
      obtain ⟨rfl, rfl⟩ := zpi h
      exact ret.1 _ _ _ _ ⟨p4.1, (zR_c (-1) rfl)⟩ rfl rfl rfl (zd tX12_clock 23 rfl)
set_option maxRecDepth 100000 in
set_option maxHeartbeats 4000000 in
theorem jX12_clock_J15 {E : zE} (C : zC E 24 cX12_clock RX12 vsX12_clock) (hN : zEN E = 5) (ho : zEo E = 137) (hz : zEz E = False) (hRm : zER E = rmX12_clock) {v' : zHp} {r' : Int} (ret : zRet E cX12_clock 0 0 24 (some .int) (zV 137 24 v' ∧ zR r') (some (zi r')) v') (v : zHp) (x1 : Int) (x2 : Int) (h : fX12_clock_J15 v x1 x2 = some (v', r')) (hv : zV 137 24 v) (Rx1 : zR x1) (Rx2 : zR x2) : zX E 0 0 24 v 15 [some (zr 137), some (zi x1), some (zi x2), none, none] [] := by
  unfold fX12_clock_J15 at h
  refine z_iconst C (zd tX12_clock 8 rfl) ?_
  refine z_goto (tgt := 24) C (zd tX12_clock 9 rfl) (by decide) ?_
  refine z_sub (lo' := [some (zr 137), some (zi x1), some (zi x2), none, none]) (zsub_s (zsub_s (zsub_s (zsub_n (zsub_n zsub_0))))) ?_
  exact jX12_clock_J24 C hN ho hz hRm ret v x1 x2 (-1) h hv Rx1 Rx2 (zR_c (-1) rfl)
set_option maxRecDepth 100000 in
set_option maxHeartbeats 4000000 in
theorem qX12_clock (l : Launch) (D : va_G) (ids : Nat → ClassId) (b : Nat) {x1 : Int} (Rx1 : zR x1) {x2 : Int} (Rx2 : zR x2) {v v' : zHp} {r' : Int} (hv : zV 137 24 v) (h : fX12_clock v x1 x2 = some (v', r')) : zCT l yX12_clock vsX12_clock rmX12_clock D ids b 137 False 24 [zr 137, zi x1, zi x2] v 24 (zV 137 24 v' ∧ zR r') (some (zi r')) v' 0 0 := by
  refine zMet (own := RX12) (by decide +kernel) (show vsX12_clock = _ from rfl) (Nat.le_of_ble_eq_true rfl) rfl ?_
  intro E hl hRm hD hids hb ho hz hN C hname ret
  subst hl hD hids hb
  unfold fX12_clock at h
  refine z_aload_n C (zd tX12_clock 0 rfl) rfl ?_
  refine z_iconst C (zd tX12_clock 1 rfl) ?_
  obtain ⟨v1, ev1, h⟩ := zb_some h
  have hv1 : zV 137 24 v1 := by rw [ev1]; exact hv.st (zR_c 0 rfl) (lg_137 ho).1 (Or.inr rfl)
  refine pf_12_0 C (lg_137 ho) zic_12 (zm zwd_990) ev1 (zd tX12_clock 2 rfl) ?_
  refine z_iload_n C (zd tX12_clock 3 rfl) rfl ?_
  refine z_if_lt (tgt := 15) C Rx1 (zd tX12_clock 4 rfl) (by decide) h (fun h => ?_) (fun h => ?_)
  · refine z_sub (lo' := [some (zr 137), some (zi x1), some (zi x2), none, none]) (zsub_s (zsub_s (zsub_s (zsub_n (zsub_n zsub_0))))) ?_
    exact jX12_clock_J15 C hN ho hz hRm ret v1 x1 x2 h hv1 Rx1 Rx2
  · refine z_iload_n C (zd tX12_clock 5 rfl) rfl ?_
    refine z_ldc (x := (50000 : Int32)) (i := 50000) C (by decide) (zm zwd_1197) (zd tX12_clock 6 rfl) ?_
    refine z_icmp_le (tgt := 19) C Rx1 (zR_c 50000 rfl) (zd tX12_clock 7 rfl) (by decide) h (fun h => ?_) (fun h => ?_)
    · refine z_aload_n C (zd tX12_clock 10 rfl) rfl ?_
      refine z_iload_n C (zd tX12_clock 11 rfl) rfl ?_
      obtain ⟨v15, r16, cv15, h⟩ := zcl_some h
      refine zc_V C ho hz hRm (qX12_toldAt _ _ _ _ Rx1 hv1 cv15) (lg_137 ho) (by decide) rfl (zgV zwd_1198 zwd_1200 zws_50 zwd_13 zwd_1201) rfl pX12_toldAt rfl ⟨rfl, rfl⟩ ⟨Nat.le_of_ble_eq_true rfl, Nat.le_of_ble_eq_true rfl⟩ [] rfl (Nat.le_of_ble_eq_true rfl) (zd tX12_clock 12 rfl) [zi r16] rfl (fun p17 => ?_)
      refine z_sub (lo' := [some (zr 137), some (zi x1), some (zi x2), none, none]) (zsub_s (zsub_s (zsub_s (zsub_n (zsub_n zsub_0))))) ?_
      exact jX12_clock_J24 C hN ho hz hRm ret v15 x1 x2 r16 h p17.1 Rx1 Rx2 p17.2
    · refine z_sub (lo' := [some (zr 137), some (zi x1), some (zi x2), none, none]) (zsub_s (zsub_s (zsub_s (zsub_n (zsub_n zsub_0))))) ?_
      exact jX12_clock_J15 C hN ho hz hRm ret v1 x1 x2 h hv1 Rx1 Rx2
