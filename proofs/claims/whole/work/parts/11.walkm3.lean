noncomputable def vsX12_premiumLine : List Cond := .code yX12_premiumLine cX12_premiumLine 4 (some .boolean) :: zbig
abbrev rmX12_premiumLine : Room := { frames := 3, cells := 6, slots := 48, locals := 72 }
theorem pX12_premiumLine : yX12_premiumLine.cls = RX12 ∧ yX12_premiumLine.cls ≠ "java/lang/invoke/MethodHandle" ∧ yX12_premiumLine.cls ≠ "java/lang/invoke/VarHandle" ∧ (parseMethodDescriptor yX12_premiumLine.desc).map (fun d => d.parameters.length) = some 0 := by decide +kernel
set_option maxRecDepth 100000 in
set_option maxHeartbeats 4000000 in
theorem jX12_premiumLine_J261 {E : zE} (C : zC E 24 cX12_premiumLine RX12 vsX12_premiumLine) (hN : zEN E = 4) (ho : zEo E = 137) (hz : zEz E = False) (hRm : zER E = rmX12_premiumLine) {v' : zHp} {r' : Int} (ret : zRet E cX12_premiumLine 6 48 24 (some .boolean) (zV 137 24 v' ∧ zR r') (some (zi r')) v') (v : zHp) (h : fX12_premiumLine_J261 v = some (v', r')) (hv : zV 137 24 v) : zX E 6 48 24 v 261 [some (zr 137), none, none, none] [] := by
  unfold fX12_premiumLine_J261 at h
  refine z_aload_n C (zd tX12_premiumLine 158 rfl) rfl ?_
  refine gl_12_11 (t := 140) C (lg_137 ho) zic_12 (zm zwd_1001) (vl_12_11 ho hv (lg_137 ho)) (zd tX12_premiumLine 159 rfl) ?_
  refine z_bipush C (by decide) (zd tX12_premiumLine 160 rfl) ?_
  refine z_dup2 C (zd tX12_premiumLine 161 rfl) ?_
  obtain ⟨q35, h⟩ := zck_some h
  refine za_iald C (lg_140 ho) rfl (by decide) q35 (zd tX12_premiumLine 162 rfl) ?_
  refine z_iconst C (zd tX12_premiumLine 163 rfl) ?_
  refine z_iadd C (zd tX12_premiumLine 164 rfl) ?_
  obtain ⟨t36, et36, Rt36, h⟩ := zn_some h
  refine z_n0 (congrArg zI et36.symm) ?_
  obtain ⟨q37, h⟩ := zck_some h
  obtain ⟨v38, ev38, h⟩ := zb_some h
  have hv38 : zV 137 24 v38 := by rw [ev38]; exact hv.st Rt36 (lg_140 ho).1 (Or.inr rfl)
  refine za_iast C (lg_140 ho) rfl (by decide) q37 ev38 (zd tX12_premiumLine 165 rfl) ?_
  refine z_iconst C (zd tX12_premiumLine 166 rfl) ?_
  obtain ⟨rfl, rfl⟩ := zpi h
  exact ret.1 _ _ _ _ ⟨hv38, (zR_c 1 rfl)⟩ rfl rfl (by decide) (zd tX12_premiumLine 167 rfl)
set_option maxRecDepth 100000 in
set_option maxHeartbeats 4000000 in
theorem jX12_premiumLine_J252 {E : zE} (C : zC E 24 cX12_premiumLine RX12 vsX12_premiumLine) (hN : zEN E = 4) (ho : zEo E = 137) (hz : zEz E = False) (hRm : zER E = rmX12_premiumLine) {v' : zHp} {r' : Int} (ret : zRet E cX12_premiumLine 6 48 24 (some .boolean) (zV 137 24 v' ∧ zR r') (some (zi r')) v') (v : zHp) (x3 : Int) (s1 : Int) (s2 : Int) (h : fX12_premiumLine_J252 v x3 s1 s2 = some (v', r')) (hv : zV 137 24 v) (Rx3 : zR x3) (Rs1 : zR s1) (Rs2 : zR s2) : zX E 6 48 24 v 252 [some (zr 137), none, none, some (zi x3)] [zi s2, zi s1, zr 140] := by
  unfold fX12_premiumLine_J252 at h
  obtain ⟨q33, h⟩ := zck_some h
  obtain ⟨v34, ev34, h⟩ := zb_some h
  have hv34 : zV 137 24 v34 := by rw [ev34]; exact hv.st Rs2 (lg_140 ho).1 (Or.inr rfl)
  refine za_iast C (lg_140 ho) rfl (by decide) q33 ev34 (zd tX12_premiumLine 153 rfl) ?_
  refine z_iload_n C (zd tX12_premiumLine 154 rfl) rfl ?_
  refine z_if_eq (tgt := 261) C Rx3 (zd tX12_premiumLine 155 rfl) (by decide) h (fun h => ?_) (fun h => ?_)
  · refine z_sub (lo' := [some (zr 137), none, none, none]) (zsub_s (zsub_n (zsub_n (zsub_n zsub_0)))) ?_
    exact jX12_premiumLine_J261 C hN ho hz hRm ret v34 h hv34
  · refine z_aload_n C (zd tX12_premiumLine 156 rfl) rfl ?_
    obtain ⟨v39, r40, cv39, h⟩ := zcl_some h
    refine zc_VA C ho hz hRm (qX12_go _ _ _ _ hv34 cv39) (lg_137 ho) (by decide) rfl (zgV zwd_1112 zwd_1114 zws_33 zwd_13 zwd_1115) rfl pX12_go rfl ⟨rfl, rfl⟩ ⟨Nat.le_of_ble_eq_true rfl, Nat.le_of_ble_eq_true rfl⟩ (k' := 6) (n' := 48) ⟨rfl, rfl⟩ ⟨Nat.le_of_ble_eq_true rfl, Nat.le_of_ble_eq_true rfl⟩ [] rfl (Nat.le_of_ble_eq_true rfl) (zd tX12_premiumLine 157 rfl) [] rfl (fun p41 => ?_)
    refine z_sub (lo' := [some (zr 137), none, none, none]) (zsub_s (zsub_n (zsub_n (zsub_n zsub_0)))) ?_
    exact jX12_premiumLine_J261 C hN ho hz hRm ret v39 h p41
set_option maxRecDepth 100000 in
set_option maxHeartbeats 4000000 in
theorem jX12_premiumLine_J192 {E : zE} (C : zC E 24 cX12_premiumLine RX12 vsX12_premiumLine) (hN : zEN E = 4) (ho : zEo E = 137) (hz : zEz E = False) (hRm : zER E = rmX12_premiumLine) {v' : zHp} {r' : Int} (ret : zRet E cX12_premiumLine 6 48 24 (some .boolean) (zV 137 24 v' ∧ zR r') (some (zi r')) v') (v : zHp) (x1 : Int) (h : fX12_premiumLine_J192 v x1 = some (v', r')) (hv : zV 137 24 v) (Rx1 : zR x1) : zX E 5 40 24 v 192 [some (zr 137), some (zi x1), none, none] [] := by
  unfold fX12_premiumLine_J192 at h
  refine z_aload_n C (zd tX12_premiumLine 117 rfl) rfl ?_
  refine z_iconst C (zd tX12_premiumLine 118 rfl) ?_
  refine z_sipush C (by decide) (zd tX12_premiumLine 119 rfl) ?_
  obtain ⟨v24, r25, cv24, h⟩ := zcl_some h
  refine zc_VA C ho hz hRm (qX12_number _ _ _ _ (zR_c 1 rfl) (zR_c 300 rfl) hv cv24) (lg_137 ho) (by decide) rfl (zgV zwd_1141 zwd_1143 zws_40 zwd_13 zwd_1144) rfl pX12_number rfl ⟨rfl, rfl⟩ ⟨Nat.le_of_ble_eq_true rfl, Nat.le_of_ble_eq_true rfl⟩ (k' := 5) (n' := 40) ⟨rfl, rfl⟩ ⟨Nat.le_of_ble_eq_true rfl, Nat.le_of_ble_eq_true rfl⟩ [] rfl (Nat.le_of_ble_eq_true rfl) (zd tX12_premiumLine 120 rfl) [zi r25] rfl (fun p26 => ?_)
  refine z_if_ne (tgt := 205) C p26.2 (zd tX12_premiumLine 121 rfl) (by decide) h (fun h => ?_) (fun h => ?_)
  · refine z_aload_n C (zd tX12_premiumLine 124 rfl) rfl ?_
    refine gl_12_11 (t := 140) C (lg_137 ho) zic_12 (zm zwd_1001) (vl_12_11 ho p26.1 (lg_137 ho)) (zd tX12_premiumLine 125 rfl) ?_
    refine z_iload_n C (zd tX12_premiumLine 126 rfl) rfl ?_
    refine z_iconst C (zd tX12_premiumLine 127 rfl) ?_
    refine z_iadd C (zd tX12_premiumLine 128 rfl) ?_
    refine z_aload_n C (zd tX12_premiumLine 129 rfl) rfl ?_
    refine gf_12_9 C (lg_137 ho) zic_12 (zm zwd_999) (zd tX12_premiumLine 130 rfl) ?_
    obtain ⟨q27, h⟩ := zck_some h
    obtain ⟨v28, ev28, h⟩ := zb_some h
    have hv28 : zV 137 24 v28 := by rw [ev28]; exact p26.1.st (p26.1.1 _ _) (lg_140 ho).1 (Or.inr rfl)
    refine za_iast C (lg_140 ho) rfl (by decide) q27 ev28 (zd tX12_premiumLine 131 rfl) ?_
    refine z_aload_n C (zd tX12_premiumLine 132 rfl) rfl ?_
    refine z_bipush C (by decide) (zd tX12_premiumLine 133 rfl) ?_
    refine z_bipush C (by decide) (zd tX12_premiumLine 134 rfl) ?_
    refine z_bipush C (by decide) (zd tX12_premiumLine 135 rfl) ?_
    refine z_bipush C (by decide) (zd tX12_premiumLine 136 rfl) ?_
    refine z_bipush C (by decide) (zd tX12_premiumLine 137 rfl) ?_
    refine z_bipush C (by decide) (zd tX12_premiumLine 138 rfl) ?_
    refine z_iconst C (zd tX12_premiumLine 139 rfl) ?_
    refine z_iconst C (zd tX12_premiumLine 140 rfl) ?_
    obtain ⟨v29, r30, cv29, h⟩ := zcl_some h
    refine zc_VA C ho hz hRm (qX12_isWord _ _ _ _ (zR_c 99 rfl) (zR_c 111 rfl) (zR_c 117 rfl) (zR_c 110 rfl) (zR_c 116 rfl) (zR_c 115 rfl) (zR_c 0 rfl) (zR_c 0 rfl) hv28 cv29) (lg_137 ho) (by decide) rfl (zgV zwd_1125 zwd_1127 zws_36 zwd_13 zwd_1128) rfl pX12_isWord rfl ⟨rfl, rfl⟩ ⟨Nat.le_of_ble_eq_true rfl, Nat.le_of_ble_eq_true rfl⟩ (k' := 6) (n' := 48) ⟨rfl, rfl⟩ ⟨Nat.le_of_ble_eq_true rfl, Nat.le_of_ble_eq_true rfl⟩ [] rfl (Nat.le_of_ble_eq_true rfl) (zd tX12_premiumLine 141 rfl) [zi r30] rfl (fun p31 => ?_)
    refine z_istore_n C (zd tX12_premiumLine 142 rfl) (by rw [hN]; decide) ?_
    refine z_aload_n C (zd tX12_premiumLine 143 rfl) rfl ?_
    refine gl_12_11 (t := 140) C (lg_137 ho) zic_12 (zm zwd_1001) (vl_12_11 ho p31.1 (lg_137 ho)) (zd tX12_premiumLine 144 rfl) ?_
    refine z_iload_n C (zd tX12_premiumLine 145 rfl) rfl ?_
    refine z_iconst C (zd tX12_premiumLine 146 rfl) ?_
    refine z_iadd C (zd tX12_premiumLine 147 rfl) ?_
    refine z_iload_n C (zd tX12_premiumLine 148 rfl) rfl ?_
    refine z_if_eq (tgt := 251) C p31.2 (zd tX12_premiumLine 149 rfl) (by decide) h (fun h => ?_) (fun h => ?_)
    · refine z_iconst C (zd tX12_premiumLine 152 rfl) ?_
      obtain ⟨t32, et32, Rt32, h⟩ := zn_some h
      refine z_nk 1 (congrArg zI et32.symm) rfl ?_
      refine z_sub (lo' := [some (zr 137), none, none, some (zi r30)]) (zsub_s (zsub_n (zsub_n (zsub_s zsub_0)))) ?_
      exact jX12_premiumLine_J252 C hN ho hz hRm ret v29 r30 t32 0 h p31.1 p31.2 Rt32 (zR_c 0 rfl)
    · refine z_iconst C (zd tX12_premiumLine 150 rfl) ?_
      refine z_goto (tgt := 252) C (zd tX12_premiumLine 151 rfl) (by decide) ?_
      obtain ⟨t42, et42, Rt42, h⟩ := zn_some h
      refine z_nk 1 (congrArg zI et42.symm) rfl ?_
      refine z_sub (lo' := [some (zr 137), none, none, some (zi r30)]) (zsub_s (zsub_n (zsub_n (zsub_s zsub_0)))) ?_
      exact jX12_premiumLine_J252 C hN ho hz hRm ret v29 r30 t42 1 h p31.1 p31.2 Rt42 (zR_c 1 rfl)
  · refine z_iconst C (zd tX12_premiumLine 122 rfl) ?_
    refine z_widen (k' := 6) (n' := 48) (by decide) (by decide) ?_
    obtain ⟨rfl, rfl⟩ := zpi h
    exact ret.1 _ _ _ _ ⟨p26.1, (zR_c 0 rfl)⟩ rfl rfl (by decide) (zd tX12_premiumLine 123 rfl)
set_option maxRecDepth 100000 in
set_option maxHeartbeats 4000000 in
theorem jX12_premiumLine_J168 {E : zE} (C : zC E 24 cX12_premiumLine RX12 vsX12_premiumLine) (hN : zEN E = 4) (ho : zEo E = 137) (hz : zEz E = False) (hRm : zER E = rmX12_premiumLine) {v' : zHp} {r' : Int} (ret : zRet E cX12_premiumLine 6 48 24 (some .boolean) (zV 137 24 v' ∧ zR r') (some (zi r')) v') (v : zHp) (x1 : Int) (h : fX12_premiumLine_J168 v x1 = some (v', r')) (hv : zV 137 24 v) (Rx1 : zR x1) : zX E 5 40 24 v 168 [some (zr 137), some (zi x1), none, none] [] := by
  unfold fX12_premiumLine_J168 at h
  refine z_aload_n C (zd tX12_premiumLine 102 rfl) rfl ?_
  refine z_iconst C (zd tX12_premiumLine 103 rfl) ?_
  refine z_bipush C (by decide) (zd tX12_premiumLine 104 rfl) ?_
  obtain ⟨v43, r44, cv43, h⟩ := zcl_some h
  refine zc_VA C ho hz hRm (qX12_number _ _ _ _ (zR_c 0 rfl) (zR_c 23 rfl) hv cv43) (lg_137 ho) (by decide) rfl (zgV zwd_1141 zwd_1143 zws_40 zwd_13 zwd_1144) rfl pX12_number rfl ⟨rfl, rfl⟩ ⟨Nat.le_of_ble_eq_true rfl, Nat.le_of_ble_eq_true rfl⟩ (k' := 5) (n' := 40) ⟨rfl, rfl⟩ ⟨Nat.le_of_ble_eq_true rfl, Nat.le_of_ble_eq_true rfl⟩ [] rfl (Nat.le_of_ble_eq_true rfl) (zd tX12_premiumLine 105 rfl) [zi r44] rfl (fun p45 => ?_)
  refine z_if_ne (tgt := 180) C p45.2 (zd tX12_premiumLine 106 rfl) (by decide) h (fun h => ?_) (fun h => ?_)
  · refine z_aload_n C (zd tX12_premiumLine 109 rfl) rfl ?_
    refine gl_12_11 (t := 140) C (lg_137 ho) zic_12 (zm zwd_1001) (vl_12_11 ho p45.1 (lg_137 ho)) (zd tX12_premiumLine 110 rfl) ?_
    refine z_iload_n C (zd tX12_premiumLine 111 rfl) rfl ?_
    refine z_iconst C (zd tX12_premiumLine 112 rfl) ?_
    refine z_iadd C (zd tX12_premiumLine 113 rfl) ?_
    refine z_aload_n C (zd tX12_premiumLine 114 rfl) rfl ?_
    refine gf_12_9 C (lg_137 ho) zic_12 (zm zwd_999) (zd tX12_premiumLine 115 rfl) ?_
    obtain ⟨q46, h⟩ := zck_some h
    obtain ⟨v47, ev47, h⟩ := zb_some h
    have hv47 : zV 137 24 v47 := by rw [ev47]; exact p45.1.st (p45.1.1 _ _) (lg_140 ho).1 (Or.inr rfl)
    refine za_iast C (lg_140 ho) rfl (by decide) q46 ev47 (zd tX12_premiumLine 116 rfl) ?_
    refine z_sub (lo' := [some (zr 137), some (zi x1), none, none]) (zsub_s (zsub_s (zsub_n (zsub_n zsub_0)))) ?_
    exact jX12_premiumLine_J192 C hN ho hz hRm ret v47 x1 h hv47 Rx1
  · refine z_iconst C (zd tX12_premiumLine 107 rfl) ?_
    refine z_widen (k' := 6) (n' := 48) (by decide) (by decide) ?_
    obtain ⟨rfl, rfl⟩ := zpi h
    exact ret.1 _ _ _ _ ⟨p45.1, (zR_c 0 rfl)⟩ rfl rfl (by decide) (zd tX12_premiumLine 108 rfl)
set_option maxRecDepth 100000 in
set_option maxHeartbeats 4000000 in
theorem jX12_premiumLine_J134 {E : zE} (C : zC E 24 cX12_premiumLine RX12 vsX12_premiumLine) (hN : zEN E = 4) (ho : zEo E = 137) (hz : zEz E = False) (hRm : zER E = rmX12_premiumLine) {v' : zHp} {r' : Int} (ret : zRet E cX12_premiumLine 6 48 24 (some .boolean) (zV 137 24 v' ∧ zR r') (some (zi r')) v') (v : zHp) (x1 : Int) (x2 : Int) (h : fX12_premiumLine_J134 v x1 x2 = some (v', r')) (hv : zV 137 24 v) (Rx1 : zR x1) (Rx2 : zR x2) : zX E 5 40 24 v 134 [some (zr 137), some (zi x1), some (zi x2), none] [] := by
  unfold fX12_premiumLine_J134 at h
  refine z_iload_n C (zd tX12_premiumLine 82 rfl) rfl ?_
  refine z_iconst C (zd tX12_premiumLine 83 rfl) ?_
  refine z_icmp_ne (tgt := 192) C Rx2 (zR_c 3 rfl) (zd tX12_premiumLine 84 rfl) (by decide) h (fun h => ?_) (fun h => ?_)
  · refine z_sub (lo' := [some (zr 137), some (zi x1), none, none]) (zsub_s (zsub_s (zsub_n (zsub_n zsub_0)))) ?_
    exact jX12_premiumLine_J192 C hN ho hz hRm ret v x1 h hv Rx1
  · refine z_aload_n C (zd tX12_premiumLine 85 rfl) rfl ?_
    refine gf_12_6 C (lg_137 ho) zic_12 (zm zwd_996) (zd tX12_premiumLine 86 rfl) ?_
    refine z_iconst C (zd tX12_premiumLine 87 rfl) ?_
    refine z_icmp_ne (tgt := 168) C (hv.1 _ _) (zR_c 2 rfl) (zd tX12_premiumLine 88 rfl) (by decide) h (fun h => ?_) (fun h => ?_)
    · refine z_sub (lo' := [some (zr 137), some (zi x1), none, none]) (zsub_s (zsub_s (zsub_n (zsub_n zsub_0)))) ?_
      exact jX12_premiumLine_J168 C hN ho hz hRm ret v x1 h hv Rx1
    · refine z_aload_n C (zd tX12_premiumLine 89 rfl) rfl ?_
      refine gf_12_7 C (lg_137 ho) zic_12 (zm zwd_997) (zd tX12_premiumLine 90 rfl) ?_
      refine z_aload_n C (zd tX12_premiumLine 91 rfl) rfl ?_
      refine gl_12_11 (t := 140) C (lg_137 ho) zic_12 (zm zwd_1001) (vl_12_11 ho hv (lg_137 ho)) (zd tX12_premiumLine 92 rfl) ?_
      refine z_iload_n C (zd tX12_premiumLine 93 rfl) rfl ?_
      refine z_iconst C (zd tX12_premiumLine 94 rfl) ?_
      refine z_iadd C (zd tX12_premiumLine 95 rfl) ?_
      obtain ⟨q48, h⟩ := zck_some h
      refine za_iald C (lg_140 ho) rfl (by decide) q48 (zd tX12_premiumLine 96 rfl) ?_
      refine z_icmp_ne (tgt := 168) C (hv.1 _ _) (hv.1 _ _) (zd tX12_premiumLine 97 rfl) (by decide) h (fun h => ?_) (fun h => ?_)
      · refine z_sub (lo' := [some (zr 137), some (zi x1), none, none]) (zsub_s (zsub_s (zsub_n (zsub_n zsub_0)))) ?_
        exact jX12_premiumLine_J168 C hN ho hz hRm ret v x1 h hv Rx1
      · refine z_aload_n C (zd tX12_premiumLine 98 rfl) rfl ?_
        refine z_iconst C (zd tX12_premiumLine 99 rfl) ?_
        obtain ⟨v49, r50, cv49, h⟩ := zcl_some h
        refine zc_VA C ho hz hRm (qX12_bad _ _ _ _ (zR_c 2 rfl) hv cv49) (lg_137 ho) (by decide) rfl (zgV zwd_1137 zwd_1139 zws_39 zwd_13 zwd_1140) rfl pX12_bad rfl ⟨rfl, rfl⟩ ⟨Nat.le_of_ble_eq_true rfl, Nat.le_of_ble_eq_true rfl⟩ (k' := 5) (n' := 40) ⟨rfl, rfl⟩ ⟨Nat.le_of_ble_eq_true rfl, Nat.le_of_ble_eq_true rfl⟩ [] rfl (Nat.le_of_ble_eq_true rfl) (zd tX12_premiumLine 100 rfl) [zi r50] rfl (fun p51 => ?_)
        obtain ⟨q52, h⟩ := zck_some h
        refine z_widen (k' := 6) (n' := 48) (by decide) (by decide) ?_
        obtain ⟨rfl, rfl⟩ := zpi h
        exact ret.1 _ _ _ _ ⟨p51.1, p51.2⟩ rfl rfl (zbool_n q52) (zd tX12_premiumLine 101 rfl)
set_option maxRecDepth 100000 in
set_option maxHeartbeats 4000000 in
theorem jX12_premiumLine_J114 {E : zE} (C : zC E 24 cX12_premiumLine RX12 vsX12_premiumLine) (hN : zEN E = 4) (ho : zEo E = 137) (hz : zEz E = False) (hRm : zER E = rmX12_premiumLine) {v' : zHp} {r' : Int} (ret : zRet E cX12_premiumLine 6 48 24 (some .boolean) (zV 137 24 v' ∧ zR r') (some (zi r')) v') (v : zHp) (x1 : Int) (x2 : Int) (s1 : Int) (s2 : Int) (h : fX12_premiumLine_J114 v x1 x2 s1 s2 = some (v', r')) (hv : zV 137 24 v) (Rx1 : zR x1) (Rx2 : zR x2) (Rs1 : zR s1) (Rs2 : zR s2) : zX E 5 40 24 v 114 [some (zr 137), some (zi x1), some (zi x2), none] [zi s2, zi s1, zr 137] := by
  unfold fX12_premiumLine_J114 at h
  obtain ⟨v19, r20, cv19, h⟩ := zcl_some h
  refine zc_VA C ho hz hRm (qX12_number _ _ _ _ Rs1 Rs2 hv cv19) (lg_137 ho) (by decide) rfl (zgV zwd_1141 zwd_1143 zws_40 zwd_13 zwd_1144) rfl pX12_number rfl ⟨rfl, rfl⟩ ⟨Nat.le_of_ble_eq_true rfl, Nat.le_of_ble_eq_true rfl⟩ (k' := 5) (n' := 40) ⟨rfl, rfl⟩ ⟨Nat.le_of_ble_eq_true rfl, Nat.le_of_ble_eq_true rfl⟩ [] rfl (Nat.le_of_ble_eq_true rfl) (zd tX12_premiumLine 70 rfl) [zi r20] rfl (fun p21 => ?_)
  refine z_if_ne (tgt := 122) C p21.2 (zd tX12_premiumLine 71 rfl) (by decide) h (fun h => ?_) (fun h => ?_)
  · refine z_aload_n C (zd tX12_premiumLine 74 rfl) rfl ?_
    refine gl_12_11 (t := 140) C (lg_137 ho) zic_12 (zm zwd_1001) (vl_12_11 ho p21.1 (lg_137 ho)) (zd tX12_premiumLine 75 rfl) ?_
    refine z_iload_n C (zd tX12_premiumLine 76 rfl) rfl ?_
    refine z_iconst C (zd tX12_premiumLine 77 rfl) ?_
    refine z_iadd C (zd tX12_premiumLine 78 rfl) ?_
    refine z_aload_n C (zd tX12_premiumLine 79 rfl) rfl ?_
    refine gf_12_9 C (lg_137 ho) zic_12 (zm zwd_999) (zd tX12_premiumLine 80 rfl) ?_
    obtain ⟨q22, h⟩ := zck_some h
    obtain ⟨v23, ev23, h⟩ := zb_some h
    have hv23 : zV 137 24 v23 := by rw [ev23]; exact p21.1.st (p21.1.1 _ _) (lg_140 ho).1 (Or.inr rfl)
    refine za_iast C (lg_140 ho) rfl (by decide) q22 ev23 (zd tX12_premiumLine 81 rfl) ?_
    refine z_sub (lo' := [some (zr 137), some (zi x1), some (zi x2), none]) (zsub_s (zsub_s (zsub_s (zsub_n zsub_0)))) ?_
    exact jX12_premiumLine_J134 C hN ho hz hRm ret v23 x1 x2 h hv23 Rx1 Rx2
  · refine z_iconst C (zd tX12_premiumLine 72 rfl) ?_
    refine z_widen (k' := 6) (n' := 48) (by decide) (by decide) ?_
    obtain ⟨rfl, rfl⟩ := zpi h
    exact ret.1 _ _ _ _ ⟨p21.1, (zR_c 0 rfl)⟩ rfl rfl (by decide) (zd tX12_premiumLine 73 rfl)
set_option maxRecDepth 100000 in
set_option maxHeartbeats 4000000 in
theorem jX12_premiumLine_J90 {E : zE} (C : zC E 24 cX12_premiumLine RX12 vsX12_premiumLine) (hN : zEN E = 4) (ho : zEo E = 137) (hz : zEz E = False) (hRm : zER E = rmX12_premiumLine) {v' : zHp} {r' : Int} (ret : zRet E cX12_premiumLine 6 48 24 (some .boolean) (zV 137 24 v' ∧ zR r') (some (zi r')) v') (v : zHp) (x1 : Int) (x2 : Int) (h : fX12_premiumLine_J90 v x1 x2 = some (v', r')) (hv : zV 137 24 v) (Rx1 : zR x1) (Rx2 : zR x2) : zX E 5 40 24 v 90 [some (zr 137), some (zi x1), some (zi x2), none] [] := by
  unfold fX12_premiumLine_J90 at h
  refine z_aload_n C (zd tX12_premiumLine 58 rfl) rfl ?_
  refine z_iconst C (zd tX12_premiumLine 59 rfl) ?_
  refine z_iload_n C (zd tX12_premiumLine 60 rfl) rfl ?_
  refine z_if_ne (tgt := 101) C Rx2 (zd tX12_premiumLine 61 rfl) (by decide) h (fun h => ?_) (fun h => ?_)
  · refine z_iload_n C (zd tX12_premiumLine 64 rfl) rfl ?_
    refine z_iconst C (zd tX12_premiumLine 65 rfl) ?_
    refine z_icmp_ne (tgt := 112) C Rx2 (zR_c 1 rfl) (zd tX12_premiumLine 66 rfl) (by decide) h (fun h => ?_) (fun h => ?_)
    · refine z_bipush C (by decide) (zd tX12_premiumLine 69 rfl) ?_
      refine z_sub (lo' := [some (zr 137), some (zi x1), some (zi x2), none]) (zsub_s (zsub_s (zsub_s (zsub_n zsub_0)))) ?_
      exact jX12_premiumLine_J114 C hN ho hz hRm ret v x1 x2 0 23 h hv Rx1 Rx2 (zR_c 0 rfl) (zR_c 23 rfl)
    · refine z_sipush C (by decide) (zd tX12_premiumLine 67 rfl) ?_
      refine z_goto (tgt := 114) C (zd tX12_premiumLine 68 rfl) (by decide) ?_
      refine z_sub (lo' := [some (zr 137), some (zi x1), some (zi x2), none]) (zsub_s (zsub_s (zsub_s (zsub_n zsub_0)))) ?_
      exact jX12_premiumLine_J114 C hN ho hz hRm ret v x1 x2 0 672 h hv Rx1 Rx2 (zR_c 0 rfl) (zR_c 672 rfl)
  · refine z_bipush C (by decide) (zd tX12_premiumLine 62 rfl) ?_
    refine z_goto (tgt := 114) C (zd tX12_premiumLine 63 rfl) (by decide) ?_
    refine z_sub (lo' := [some (zr 137), some (zi x1), some (zi x2), none]) (zsub_s (zsub_s (zsub_s (zsub_n zsub_0)))) ?_
    exact jX12_premiumLine_J114 C hN ho hz hRm ret v x1 x2 0 96 h hv Rx1 Rx2 (zR_c 0 rfl) (zR_c 96 rfl)
set_option maxRecDepth 100000 in
set_option maxHeartbeats 4000000 in
theorem qX12_premiumLine (l : Launch) (D : va_G) (ids : Nat → ClassId) (b : Nat)  {v v' : zHp} {r' : Int} (hv : zV 137 24 v) (h : fX12_premiumLine v = some (v', r')) : zCT l yX12_premiumLine vsX12_premiumLine rmX12_premiumLine D ids b 137 False 24 [zr 137] v 24 (zV 137 24 v' ∧ zR r') (some (zi r')) v' 6 48 := by
  refine zMet (own := RX12) (by decide +kernel) (show vsX12_premiumLine = _ from rfl) (Nat.le_of_ble_eq_true rfl) rfl ?_
  intro E hl hRm hD hids hb ho hz hN C hname ret
  subst hl hD hids hb
  unfold fX12_premiumLine at h
  refine z_aload_n C (zd tX12_premiumLine 0 rfl) rfl ?_
  refine gl_12_11 (t := 140) C (lg_137 ho) zic_12 (zm zwd_1001) (vl_12_11 ho hv (lg_137 ho)) (zd tX12_premiumLine 1 rfl) ?_
  refine z_bipush C (by decide) (zd tX12_premiumLine 2 rfl) ?_
  obtain ⟨q1, h⟩ := zck_some h
  refine za_iald C (lg_140 ho) rfl (by decide) q1 (zd tX12_premiumLine 3 rfl) ?_
  refine z_bipush C (by decide) (zd tX12_premiumLine 4 rfl) ?_
  refine z_icmp_ne (tgt := 18) C (hv.1 _ _) (zR_c 8 rfl) (zd tX12_premiumLine 5 rfl) (by decide) h (fun h => ?_) (fun h => ?_)
  · refine z_aload_n C (zd tX12_premiumLine 10 rfl) rfl ?_
    obtain ⟨v2, r3, cv2, h⟩ := zcl_some h
    refine zc_VA C ho hz hRm (qX12_go _ _ _ _ hv cv2) (lg_137 ho) (by decide) rfl (zgV zwd_1112 zwd_1114 zws_33 zwd_13 zwd_1115) rfl pX12_go rfl ⟨rfl, rfl⟩ ⟨Nat.le_of_ble_eq_true rfl, Nat.le_of_ble_eq_true rfl⟩ (k' := 0) (n' := 0) ⟨rfl, rfl⟩ ⟨Nat.le_of_ble_eq_true rfl, Nat.le_of_ble_eq_true rfl⟩ [] rfl (Nat.le_of_ble_eq_true rfl) (zd tX12_premiumLine 11 rfl) [] rfl (fun p4 => ?_)
    refine z_bipush C (by decide) (zd tX12_premiumLine 12 rfl) ?_
    refine z_iconst C (zd tX12_premiumLine 13 rfl) ?_
    refine z_aload_n C (zd tX12_premiumLine 14 rfl) rfl ?_
    refine gl_12_11 (t := 140) C (lg_137 ho) zic_12 (zm zwd_1001) (vl_12_11 ho p4 (lg_137 ho)) (zd tX12_premiumLine 15 rfl) ?_
    refine z_bipush C (by decide) (zd tX12_premiumLine 16 rfl) ?_
    obtain ⟨q5, h⟩ := zck_some h
    refine za_iald C (lg_140 ho) rfl (by decide) q5 (zd tX12_premiumLine 17 rfl) ?_
    refine z_imul C (zd tX12_premiumLine 18 rfl) ?_
    refine z_iadd C (zd tX12_premiumLine 19 rfl) ?_
    obtain ⟨t6, et6, Rt6, h⟩ := zn_some h
    refine z_n0 (congrArg zI et6.symm) ?_
    refine z_istore_n C (zd tX12_premiumLine 20 rfl) (by rw [hN]; decide) ?_
    refine z_aload_n C (zd tX12_premiumLine 21 rfl) rfl ?_
    obtain ⟨v7, r8, cv7, h⟩ := zcl_some h
    refine zc_VA C ho hz hRm (qX12_kindOf _ _ _ _ p4 cv7) (lg_137 ho) (by decide) rfl (zgV zwd_1161 zwd_1163 zws_45 zwd_13 zwd_1164) rfl pX12_kindOf rfl ⟨rfl, rfl⟩ ⟨Nat.le_of_ble_eq_true rfl, Nat.le_of_ble_eq_true rfl⟩ (k' := 5) (n' := 40) ⟨rfl, rfl⟩ ⟨Nat.le_of_ble_eq_true rfl, Nat.le_of_ble_eq_true rfl⟩ [] rfl (Nat.le_of_ble_eq_true rfl) (zd tX12_premiumLine 22 rfl) [zi r8] rfl (fun p9 => ?_)
    refine z_istore_n C (zd tX12_premiumLine 23 rfl) (by rw [hN]; decide) ?_
    refine z_iload_n C (zd tX12_premiumLine 24 rfl) rfl ?_
    refine z_iconst C (zd tX12_premiumLine 25 rfl) ?_
    refine z_icmp_ne (tgt := 51) C p9.2 (zR_c (-1) rfl) (zd tX12_premiumLine 26 rfl) (by decide) h (fun h => ?_) (fun h => ?_)
    · refine z_aload_n C (zd tX12_premiumLine 31 rfl) rfl ?_
      obtain ⟨v10, r11, cv10, h⟩ := zcl_some h
      refine zc_VA C ho hz hRm (qX12_go _ _ _ _ p9.1 cv10) (lg_137 ho) (by decide) rfl (zgV zwd_1112 zwd_1114 zws_33 zwd_13 zwd_1115) rfl pX12_go rfl ⟨rfl, rfl⟩ ⟨Nat.le_of_ble_eq_true rfl, Nat.le_of_ble_eq_true rfl⟩ (k' := 5) (n' := 40) ⟨rfl, rfl⟩ ⟨Nat.le_of_ble_eq_true rfl, Nat.le_of_ble_eq_true rfl⟩ [] rfl (Nat.le_of_ble_eq_true rfl) (zd tX12_premiumLine 32 rfl) [] rfl (fun p12 => ?_)
      refine z_aload_n C (zd tX12_premiumLine 33 rfl) rfl ?_
      refine gl_12_11 (t := 140) C (lg_137 ho) zic_12 (zm zwd_1001) (vl_12_11 ho p12 (lg_137 ho)) (zd tX12_premiumLine 34 rfl) ?_
      refine z_iload_n C (zd tX12_premiumLine 35 rfl) rfl ?_
      refine z_iload_n C (zd tX12_premiumLine 36 rfl) rfl ?_
      obtain ⟨q13, h⟩ := zck_some h
      obtain ⟨v14, ev14, h⟩ := zb_some h
      have hv14 : zV 137 24 v14 := by rw [ev14]; exact p12.st p9.2 (lg_140 ho).1 (Or.inr rfl)
      refine za_iast C (lg_140 ho) rfl (by decide) q13 ev14 (zd tX12_premiumLine 37 rfl) ?_
      refine z_aload_n C (zd tX12_premiumLine 38 rfl) rfl ?_
      refine gl_12_11 (t := 140) C (lg_137 ho) zic_12 (zm zwd_1001) (vl_12_11 ho hv14 (lg_137 ho)) (zd tX12_premiumLine 39 rfl) ?_
      refine z_iload_n C (zd tX12_premiumLine 40 rfl) rfl ?_
      refine z_iconst C (zd tX12_premiumLine 41 rfl) ?_
      refine z_iadd C (zd tX12_premiumLine 42 rfl) ?_
      refine z_iconst C (zd tX12_premiumLine 43 rfl) ?_
      obtain ⟨q15, h⟩ := zck_some h
      obtain ⟨v16, ev16, h⟩ := zb_some h
      have hv16 : zV 137 24 v16 := by rw [ev16]; exact hv14.st (zR_c (-1) rfl) (lg_140 ho).1 (Or.inr rfl)
      refine za_iast C (lg_140 ho) rfl (by decide) q15 ev16 (zd tX12_premiumLine 44 rfl) ?_
      refine z_aload_n C (zd tX12_premiumLine 45 rfl) rfl ?_
      refine gl_12_11 (t := 140) C (lg_137 ho) zic_12 (zm zwd_1001) (vl_12_11 ho hv16 (lg_137 ho)) (zd tX12_premiumLine 46 rfl) ?_
      refine z_iload_n C (zd tX12_premiumLine 47 rfl) rfl ?_
      refine z_iconst C (zd tX12_premiumLine 48 rfl) ?_
      refine z_iadd C (zd tX12_premiumLine 49 rfl) ?_
      refine z_iconst C (zd tX12_premiumLine 50 rfl) ?_
      obtain ⟨q17, h⟩ := zck_some h
      obtain ⟨v18, ev18, h⟩ := zb_some h
      have hv18 : zV 137 24 v18 := by rw [ev18]; exact hv16.st (zR_c (-1) rfl) (lg_140 ho).1 (Or.inr rfl)
      refine za_iast C (lg_140 ho) rfl (by decide) q17 ev18 (zd tX12_premiumLine 51 rfl) ?_
      refine z_iload_n C (zd tX12_premiumLine 52 rfl) rfl ?_
      refine z_iconst C (zd tX12_premiumLine 53 rfl) ?_
      refine z_icmp_le (tgt := 90) C p9.2 (zR_c 1 rfl) (zd tX12_premiumLine 54 rfl) (by decide) h (fun h => ?_) (fun h => ?_)
      · refine z_sub (lo' := [some (zr 137), some (zi t6), some (zi r8), none]) (zsub_s (zsub_s (zsub_s (zsub_n zsub_0)))) ?_
        exact jX12_premiumLine_J90 C hN ho hz hRm ret v18 t6 r8 h hv18 Rt6 p9.2
      · refine z_iload_n C (zd tX12_premiumLine 55 rfl) rfl ?_
        refine z_iconst C (zd tX12_premiumLine 56 rfl) ?_
        refine z_icmp_ne (tgt := 134) C p9.2 (zR_c 3 rfl) (zd tX12_premiumLine 57 rfl) (by decide) h (fun h => ?_) (fun h => ?_)
        · refine z_sub (lo' := [some (zr 137), some (zi t6), some (zi r8), none]) (zsub_s (zsub_s (zsub_s (zsub_n zsub_0)))) ?_
          exact jX12_premiumLine_J134 C hN ho hz hRm ret v18 t6 r8 h hv18 Rt6 p9.2
        · refine z_sub (lo' := [some (zr 137), some (zi t6), some (zi r8), none]) (zsub_s (zsub_s (zsub_s (zsub_n zsub_0)))) ?_
          exact jX12_premiumLine_J90 C hN ho hz hRm ret v18 t6 r8 h hv18 Rt6 p9.2
    · refine z_aload_n C (zd tX12_premiumLine 27 rfl) rfl ?_
      refine z_iconst C (zd tX12_premiumLine 28 rfl) ?_
      obtain ⟨v53, r54, cv53, h⟩ := zcl_some h
      refine zc_VA C ho hz hRm (qX12_bad _ _ _ _ (zR_c 1 rfl) p9.1 cv53) (lg_137 ho) (by decide) rfl (zgV zwd_1137 zwd_1139 zws_39 zwd_13 zwd_1140) rfl pX12_bad rfl ⟨rfl, rfl⟩ ⟨Nat.le_of_ble_eq_true rfl, Nat.le_of_ble_eq_true rfl⟩ (k' := 5) (n' := 40) ⟨rfl, rfl⟩ ⟨Nat.le_of_ble_eq_true rfl, Nat.le_of_ble_eq_true rfl⟩ [] rfl (Nat.le_of_ble_eq_true rfl) (zd tX12_premiumLine 29 rfl) [zi r54] rfl (fun p55 => ?_)
      obtain ⟨q56, h⟩ := zck_some h
      refine z_widen (k' := 6) (n' := 48) (by decide) (by decide) ?_
      obtain ⟨rfl, rfl⟩ := zpi h
      exact ret.1 _ _ _ _ ⟨p55.1, p55.2⟩ rfl rfl (zbool_n q56) (zd tX12_premiumLine 30 rfl)
  · refine z_aload_n C (zd tX12_premiumLine 6 rfl) rfl ?_
    refine z_iconst C (zd tX12_premiumLine 7 rfl) ?_
    obtain ⟨v57, r58, cv57, h⟩ := zcl_some h
    refine zc_VA C ho hz hRm (qX12_bad _ _ _ _ (zR_c 3 rfl) hv cv57) (lg_137 ho) (by decide) rfl (zgV zwd_1137 zwd_1139 zws_39 zwd_13 zwd_1140) rfl pX12_bad rfl ⟨rfl, rfl⟩ ⟨Nat.le_of_ble_eq_true rfl, Nat.le_of_ble_eq_true rfl⟩ (k' := 0) (n' := 0) ⟨rfl, rfl⟩ ⟨Nat.le_of_ble_eq_true rfl, Nat.le_of_ble_eq_true rfl⟩ [] rfl (Nat.le_of_ble_eq_true rfl) (zd tX12_premiumLine 8 rfl) [zi r58] rfl (fun p59 => ?_)
    obtain ⟨q60, h⟩ := zck_some h
    refine z_widen (k' := 6) (n' := 48) (by decide) (by decide) ?_
    obtain ⟨rfl, rfl⟩ := zpi h
    exact ret.1 _ _ _ _ ⟨p59.1, p59.2⟩ rfl rfl (zbool_n q60) (zd tX12_premiumLine 9 rfl)
noncomputable def vsX12_line : List Cond := .code yX12_line cX12_line 1 (some .boolean) :: zbig
abbrev rmX12_line : Room := { frames := 4, cells := 13, slots := 104, locals := 95 }
theorem pX12_line : yX12_line.cls = RX12 ∧ yX12_line.cls ≠ "java/lang/invoke/MethodHandle" ∧ yX12_line.cls ≠ "java/lang/invoke/VarHandle" ∧ (parseMethodDescriptor yX12_line.desc).map (fun d => d.parameters.length) = some 0 := by decide +kernel
set_option maxRecDepth 100000 in
set_option maxHeartbeats 4000000 in
theorem qX12_line (l : Launch) (D : va_G) (ids : Nat → ClassId) (b : Nat)  {v v' : zHp} {r' : Int} (hv : zV 137 24 v) (h : fX12_line v = some (v', r')) : zCT l yX12_line vsX12_line rmX12_line D ids b 137 False 24 [zr 137] v 24 (zV 137 24 v' ∧ zR r') (some (zi r')) v' 13 104 := by
  refine zMet (own := RX12) (by decide +kernel) (show vsX12_line = _ from rfl) (Nat.le_of_ble_eq_true rfl) rfl ?_
  intro E hl hRm hD hids hb ho hz hN C hname ret
  subst hl hD hids hb
  unfold fX12_line at h
  refine z_aload_n C (zd tX12_line 0 rfl) rfl ?_
  refine z_bipush C (by decide) (zd tX12_line 1 rfl) ?_
  refine z_bipush C (by decide) (zd tX12_line 2 rfl) ?_
  refine z_bipush C (by decide) (zd tX12_line 3 rfl) ?_
  refine z_bipush C (by decide) (zd tX12_line 4 rfl) ?_
  refine z_bipush C (by decide) (zd tX12_line 5 rfl) ?_
  refine z_iconst C (zd tX12_line 6 rfl) ?_
  refine z_iconst C (zd tX12_line 7 rfl) ?_
  refine z_iconst C (zd tX12_line 8 rfl) ?_
  obtain ⟨v1, r2, cv1, h⟩ := zcl_some h
  refine zc_VA C ho hz hRm (qX12_isWord _ _ _ _ (zR_c 99 rfl) (zR_c 108 rfl) (zR_c 111 rfl) (zR_c 99 rfl) (zR_c 107 rfl) (zR_c 0 rfl) (zR_c 0 rfl) (zR_c 0 rfl) hv cv1) (lg_137 ho) (by decide) rfl (zgV zwd_1125 zwd_1127 zws_36 zwd_13 zwd_1128) rfl pX12_isWord rfl ⟨rfl, rfl⟩ ⟨Nat.le_of_ble_eq_true rfl, Nat.le_of_ble_eq_true rfl⟩ (k' := 1) (n' := 8) ⟨rfl, rfl⟩ ⟨Nat.le_of_ble_eq_true rfl, Nat.le_of_ble_eq_true rfl⟩ [] rfl (Nat.le_of_ble_eq_true rfl) (zd tX12_line 9 rfl) [zi r2] rfl (fun p3 => ?_)
  refine z_if_eq (tgt := 25) C p3.2 (zd tX12_line 10 rfl) (by decide) h (fun h => ?_) (fun h => ?_)
  · refine z_aload_n C (zd tX12_line 14 rfl) rfl ?_
    refine z_bipush C (by decide) (zd tX12_line 15 rfl) ?_
    refine z_bipush C (by decide) (zd tX12_line 16 rfl) ?_
    refine z_bipush C (by decide) (zd tX12_line 17 rfl) ?_
    refine z_bipush C (by decide) (zd tX12_line 18 rfl) ?_
    refine z_bipush C (by decide) (zd tX12_line 19 rfl) ?_
    refine z_bipush C (by decide) (zd tX12_line 20 rfl) ?_
    refine z_bipush C (by decide) (zd tX12_line 21 rfl) ?_
    refine z_iconst C (zd tX12_line 22 rfl) ?_
    obtain ⟨v4, r5, cv4, h⟩ := zcl_some h
    refine zc_VA C ho hz hRm (qX12_isWord _ _ _ _ (zR_c 104 rfl) (zR_c 111 rfl) (zR_c 108 rfl) (zR_c 105 rfl) (zR_c 100 rfl) (zR_c 97 rfl) (zR_c 121 rfl) (zR_c 0 rfl) p3.1 cv4) (lg_137 ho) (by decide) rfl (zgV zwd_1125 zwd_1127 zws_36 zwd_13 zwd_1128) rfl pX12_isWord rfl ⟨rfl, rfl⟩ ⟨Nat.le_of_ble_eq_true rfl, Nat.le_of_ble_eq_true rfl⟩ (k' := 2) (n' := 16) ⟨rfl, rfl⟩ ⟨Nat.le_of_ble_eq_true rfl, Nat.le_of_ble_eq_true rfl⟩ [] rfl (Nat.le_of_ble_eq_true rfl) (zd tX12_line 23 rfl) [zi r5] rfl (fun p6 => ?_)
    refine z_if_eq (tgt := 52) C p6.2 (zd tX12_line 24 rfl) (by decide) h (fun h => ?_) (fun h => ?_)
    · refine z_aload_n C (zd tX12_line 28 rfl) rfl ?_
      refine z_bipush C (by decide) (zd tX12_line 29 rfl) ?_
      refine z_bipush C (by decide) (zd tX12_line 30 rfl) ?_
      refine z_bipush C (by decide) (zd tX12_line 31 rfl) ?_
      refine z_bipush C (by decide) (zd tX12_line 32 rfl) ?_
      refine z_bipush C (by decide) (zd tX12_line 33 rfl) ?_
      refine z_iconst C (zd tX12_line 34 rfl) ?_
      refine z_iconst C (zd tX12_line 35 rfl) ?_
      refine z_iconst C (zd tX12_line 36 rfl) ?_
      obtain ⟨v7, r8, cv7, h⟩ := zcl_some h
      refine zc_VA C ho hz hRm (qX12_isWord _ _ _ _ (zR_c 114 rfl) (zR_c 111 rfl) (zR_c 117 rfl) (zR_c 110 rfl) (zR_c 100 rfl) (zR_c 0 rfl) (zR_c 0 rfl) (zR_c 0 rfl) p6.1 cv7) (lg_137 ho) (by decide) rfl (zgV zwd_1125 zwd_1127 zws_36 zwd_13 zwd_1128) rfl pX12_isWord rfl ⟨rfl, rfl⟩ ⟨Nat.le_of_ble_eq_true rfl, Nat.le_of_ble_eq_true rfl⟩ (k' := 3) (n' := 24) ⟨rfl, rfl⟩ ⟨Nat.le_of_ble_eq_true rfl, Nat.le_of_ble_eq_true rfl⟩ [] rfl (Nat.le_of_ble_eq_true rfl) (zd tX12_line 37 rfl) [zi r8] rfl (fun p9 => ?_)
      refine z_if_eq (tgt := 82) C p9.2 (zd tX12_line 38 rfl) (by decide) h (fun h => ?_) (fun h => ?_)
      · refine z_aload_n C (zd tX12_line 46 rfl) rfl ?_
        refine z_bipush C (by decide) (zd tX12_line 47 rfl) ?_
        refine z_bipush C (by decide) (zd tX12_line 48 rfl) ?_
        refine z_bipush C (by decide) (zd tX12_line 49 rfl) ?_
        refine z_bipush C (by decide) (zd tX12_line 50 rfl) ?_
        refine z_iconst C (zd tX12_line 51 rfl) ?_
        refine z_iconst C (zd tX12_line 52 rfl) ?_
        refine z_iconst C (zd tX12_line 53 rfl) ?_
        refine z_iconst C (zd tX12_line 54 rfl) ?_
        obtain ⟨v10, r11, cv10, h⟩ := zcl_some h
        refine zc_VA C ho hz hRm (qX12_isWord _ _ _ _ (zR_c 109 rfl) (zR_c 101 rfl) (zR_c 97 rfl) (zR_c 108 rfl) (zR_c 0 rfl) (zR_c 0 rfl) (zR_c 0 rfl) (zR_c 0 rfl) p9.1 cv10) (lg_137 ho) (by decide) rfl (zgV zwd_1125 zwd_1127 zws_36 zwd_13 zwd_1128) rfl pX12_isWord rfl ⟨rfl, rfl⟩ ⟨Nat.le_of_ble_eq_true rfl, Nat.le_of_ble_eq_true rfl⟩ (k' := 4) (n' := 32) ⟨rfl, rfl⟩ ⟨Nat.le_of_ble_eq_true rfl, Nat.le_of_ble_eq_true rfl⟩ [] rfl (Nat.le_of_ble_eq_true rfl) (zd tX12_line 55 rfl) [zi r11] rfl (fun p12 => ?_)
        refine z_if_eq (tgt := 106) C p12.2 (zd tX12_line 56 rfl) (by decide) h (fun h => ?_) (fun h => ?_)
        · refine z_aload_n C (zd tX12_line 60 rfl) rfl ?_
          refine z_bipush C (by decide) (zd tX12_line 61 rfl) ?_
          refine z_bipush C (by decide) (zd tX12_line 62 rfl) ?_
          refine z_bipush C (by decide) (zd tX12_line 63 rfl) ?_
          refine z_bipush C (by decide) (zd tX12_line 64 rfl) ?_
          refine z_bipush C (by decide) (zd tX12_line 65 rfl) ?_
          refine z_bipush C (by decide) (zd tX12_line 66 rfl) ?_
          refine z_bipush C (by decide) (zd tX12_line 67 rfl) ?_
          refine z_iconst C (zd tX12_line 68 rfl) ?_
          obtain ⟨v13, r14, cv13, h⟩ := zcl_some h
          refine zc_VA C ho hz hRm (qX12_isWord _ _ _ _ (zR_c 108 rfl) (zR_c 111 rfl) (zR_c 110 rfl) (zR_c 103 rfl) (zR_c 101 rfl) (zR_c 115 rfl) (zR_c 116 rfl) (zR_c 0 rfl) p12.1 cv13) (lg_137 ho) (by decide) rfl (zgV zwd_1125 zwd_1127 zws_36 zwd_13 zwd_1128) rfl pX12_isWord rfl ⟨rfl, rfl⟩ ⟨Nat.le_of_ble_eq_true rfl, Nat.le_of_ble_eq_true rfl⟩ (k' := 5) (n' := 40) ⟨rfl, rfl⟩ ⟨Nat.le_of_ble_eq_true rfl, Nat.le_of_ble_eq_true rfl⟩ [] rfl (Nat.le_of_ble_eq_true rfl) (zd tX12_line 69 rfl) [zi r14] rfl (fun p15 => ?_)
          refine z_if_eq (tgt := 138) C p15.2 (zd tX12_line 70 rfl) (by decide) h (fun h => ?_) (fun h => ?_)
          · refine z_aload_n C (zd tX12_line 78 rfl) rfl ?_
            refine z_bipush C (by decide) (zd tX12_line 79 rfl) ?_
            refine z_bipush C (by decide) (zd tX12_line 80 rfl) ?_
            refine z_bipush C (by decide) (zd tX12_line 81 rfl) ?_
            refine z_bipush C (by decide) (zd tX12_line 82 rfl) ?_
            refine z_iconst C (zd tX12_line 83 rfl) ?_
            refine z_iconst C (zd tX12_line 84 rfl) ?_
            refine z_iconst C (zd tX12_line 85 rfl) ?_
            refine z_iconst C (zd tX12_line 86 rfl) ?_
            obtain ⟨v16, r17, cv16, h⟩ := zcl_some h
            refine zc_VA C ho hz hRm (qX12_isWord _ _ _ _ (zR_c 114 rfl) (zR_c 97 rfl) (zR_c 116 rfl) (zR_c 101 rfl) (zR_c 0 rfl) (zR_c 0 rfl) (zR_c 0 rfl) (zR_c 0 rfl) p15.1 cv16) (lg_137 ho) (by decide) rfl (zgV zwd_1125 zwd_1127 zws_36 zwd_13 zwd_1128) rfl pX12_isWord rfl ⟨rfl, rfl⟩ ⟨Nat.le_of_ble_eq_true rfl, Nat.le_of_ble_eq_true rfl⟩ (k' := 6) (n' := 48) ⟨rfl, rfl⟩ ⟨Nat.le_of_ble_eq_true rfl, Nat.le_of_ble_eq_true rfl⟩ [] rfl (Nat.le_of_ble_eq_true rfl) (zd tX12_line 87 rfl) [zi r17] rfl (fun p18 => ?_)
            refine z_if_eq (tgt := 168) C p18.2 (zd tX12_line 88 rfl) (by decide) h (fun h => ?_) (fun h => ?_)
            · refine z_aload_n C (zd tX12_line 96 rfl) rfl ?_
              refine z_bipush C (by decide) (zd tX12_line 97 rfl) ?_
              refine z_bipush C (by decide) (zd tX12_line 98 rfl) ?_
              refine z_bipush C (by decide) (zd tX12_line 99 rfl) ?_
              refine z_bipush C (by decide) (zd tX12_line 100 rfl) ?_
              refine z_bipush C (by decide) (zd tX12_line 101 rfl) ?_
              refine z_bipush C (by decide) (zd tX12_line 102 rfl) ?_
              refine z_bipush C (by decide) (zd tX12_line 103 rfl) ?_
              refine z_iconst C (zd tX12_line 104 rfl) ?_
              obtain ⟨v19, r20, cv19, h⟩ := zcl_some h
              refine zc_VA C ho hz hRm (qX12_isWord _ _ _ _ (zR_c 112 rfl) (zR_c 114 rfl) (zR_c 101 rfl) (zR_c 109 rfl) (zR_c 105 rfl) (zR_c 117 rfl) (zR_c 109 rfl) (zR_c 0 rfl) p18.1 cv19) (lg_137 ho) (by decide) rfl (zgV zwd_1125 zwd_1127 zws_36 zwd_13 zwd_1128) rfl pX12_isWord rfl ⟨rfl, rfl⟩ ⟨Nat.le_of_ble_eq_true rfl, Nat.le_of_ble_eq_true rfl⟩ (k' := 7) (n' := 56) ⟨rfl, rfl⟩ ⟨Nat.le_of_ble_eq_true rfl, Nat.le_of_ble_eq_true rfl⟩ [] rfl (Nat.le_of_ble_eq_true rfl) (zd tX12_line 105 rfl) [zi r20] rfl (fun p21 => ?_)
              refine z_if_eq (tgt := 195) C p21.2 (zd tX12_line 106 rfl) (by decide) h (fun h => ?_) (fun h => ?_)
              · refine z_aload_n C (zd tX12_line 110 rfl) rfl ?_
                refine z_iconst C (zd tX12_line 111 rfl) ?_
                obtain ⟨v22, r23, cv22, h⟩ := zcl_some h
                refine zc_VA C ho hz hRm (qX12_bad _ _ _ _ (zR_c 1 rfl) p21.1 cv22) (lg_137 ho) (by decide) rfl (zgV zwd_1137 zwd_1139 zws_39 zwd_13 zwd_1140) rfl pX12_bad rfl ⟨rfl, rfl⟩ ⟨Nat.le_of_ble_eq_true rfl, Nat.le_of_ble_eq_true rfl⟩ (k' := 7) (n' := 56) ⟨rfl, rfl⟩ ⟨Nat.le_of_ble_eq_true rfl, Nat.le_of_ble_eq_true rfl⟩ [] rfl (Nat.le_of_ble_eq_true rfl) (zd tX12_line 112 rfl) [zi r23] rfl (fun p24 => ?_)
                obtain ⟨q25, h⟩ := zck_some h
                refine z_widen (k' := 13) (n' := 104) (by decide) (by decide) ?_
                obtain ⟨rfl, rfl⟩ := zpi h
                exact ret.1 _ _ _ _ ⟨p24.1, p24.2⟩ rfl rfl (zbool_n q25) (zd tX12_line 113 rfl)
              · refine z_aload_n C (zd tX12_line 107 rfl) rfl ?_
                obtain ⟨v26, r27, cv26, h⟩ := zcl_some h
                refine zc_VA C ho hz hRm (qX12_premiumLine _ _ _ _ p21.1 cv26) (lg_137 ho) (by decide) rfl (zgV zwd_1157 zwd_1159 zws_44 zwd_13 zwd_1160) rfl pX12_premiumLine rfl ⟨rfl, rfl⟩ ⟨Nat.le_of_ble_eq_true rfl, Nat.le_of_ble_eq_true rfl⟩ (k' := 13) (n' := 104) ⟨rfl, rfl⟩ ⟨Nat.le_of_ble_eq_true rfl, Nat.le_of_ble_eq_true rfl⟩ [] rfl (Nat.le_of_ble_eq_true rfl) (zd tX12_line 108 rfl) [zi r27] rfl (fun p28 => ?_)
                obtain ⟨q29, h⟩ := zck_some h
                obtain ⟨rfl, rfl⟩ := zpi h
                exact ret.1 _ _ _ _ ⟨p28.1, p28.2⟩ rfl rfl (zbool_n q29) (zd tX12_line 109 rfl)
            · refine z_aload_n C (zd tX12_line 89 rfl) rfl ?_
              refine z_iconst C (zd tX12_line 90 rfl) ?_
              refine z_iconst C (zd tX12_line 91 rfl) ?_
              refine z_iconst C (zd tX12_line 92 rfl) ?_
              refine z_sipush C (by decide) (zd tX12_line 93 rfl) ?_
              obtain ⟨v30, r31, cv30, h⟩ := zcl_some h
              refine zc_VA C ho hz hRm (qX12_oneLine _ _ _ _ (zR_c 4 rfl) (zR_c 4 rfl) (zR_c 1 rfl) (zR_c 400 rfl) p18.1 cv30) (lg_137 ho) (by decide) rfl (zgV zwd_1149 zwd_1151 zws_42 zwd_13 zwd_1152) rfl pX12_oneLine rfl ⟨rfl, rfl⟩ ⟨Nat.le_of_ble_eq_true rfl, Nat.le_of_ble_eq_true rfl⟩ (k' := 6) (n' := 48) ⟨rfl, rfl⟩ ⟨Nat.le_of_ble_eq_true rfl, Nat.le_of_ble_eq_true rfl⟩ [] rfl (Nat.le_of_ble_eq_true rfl) (zd tX12_line 94 rfl) [zi r31] rfl (fun p32 => ?_)
              obtain ⟨q33, h⟩ := zck_some h
              refine z_widen (k' := 13) (n' := 104) (by decide) (by decide) ?_
              obtain ⟨rfl, rfl⟩ := zpi h
              exact ret.1 _ _ _ _ ⟨p32.1, p32.2⟩ rfl rfl (zbool_n q33) (zd tX12_line 95 rfl)
          · refine z_aload_n C (zd tX12_line 71 rfl) rfl ?_
            refine z_iconst C (zd tX12_line 72 rfl) ?_
            refine z_iconst C (zd tX12_line 73 rfl) ?_
            refine z_iconst C (zd tX12_line 74 rfl) ?_
            refine z_bipush C (by decide) (zd tX12_line 75 rfl) ?_
            obtain ⟨v34, r35, cv34, h⟩ := zcl_some h
            refine zc_VA C ho hz hRm (qX12_oneLine _ _ _ _ (zR_c 3 rfl) (zR_c 3 rfl) (zR_c 1 rfl) (zR_c 24 rfl) p15.1 cv34) (lg_137 ho) (by decide) rfl (zgV zwd_1149 zwd_1151 zws_42 zwd_13 zwd_1152) rfl pX12_oneLine rfl ⟨rfl, rfl⟩ ⟨Nat.le_of_ble_eq_true rfl, Nat.le_of_ble_eq_true rfl⟩ (k' := 5) (n' := 40) ⟨rfl, rfl⟩ ⟨Nat.le_of_ble_eq_true rfl, Nat.le_of_ble_eq_true rfl⟩ [] rfl (Nat.le_of_ble_eq_true rfl) (zd tX12_line 76 rfl) [zi r35] rfl (fun p36 => ?_)
            obtain ⟨q37, h⟩ := zck_some h
            refine z_widen (k' := 13) (n' := 104) (by decide) (by decide) ?_
            obtain ⟨rfl, rfl⟩ := zpi h
            exact ret.1 _ _ _ _ ⟨p36.1, p36.2⟩ rfl rfl (zbool_n q37) (zd tX12_line 77 rfl)
        · refine z_aload_n C (zd tX12_line 57 rfl) rfl ?_
          obtain ⟨v38, r39, cv38, h⟩ := zcl_some h
          refine zc_VA C ho hz hRm (qX12_mealLine _ _ _ _ p12.1 cv38) (lg_137 ho) (by decide) rfl (zgV zwd_1153 zwd_1155 zws_43 zwd_13 zwd_1156) rfl pX12_mealLine rfl ⟨rfl, rfl⟩ ⟨Nat.le_of_ble_eq_true rfl, Nat.le_of_ble_eq_true rfl⟩ (k' := 4) (n' := 32) ⟨rfl, rfl⟩ ⟨Nat.le_of_ble_eq_true rfl, Nat.le_of_ble_eq_true rfl⟩ [] rfl (Nat.le_of_ble_eq_true rfl) (zd tX12_line 58 rfl) [zi r39] rfl (fun p40 => ?_)
          obtain ⟨q41, h⟩ := zck_some h
          refine z_widen (k' := 13) (n' := 104) (by decide) (by decide) ?_
          obtain ⟨rfl, rfl⟩ := zpi h
          exact ret.1 _ _ _ _ ⟨p40.1, p40.2⟩ rfl rfl (zbool_n q41) (zd tX12_line 59 rfl)
      · refine z_aload_n C (zd tX12_line 39 rfl) rfl ?_
        refine z_iconst C (zd tX12_line 40 rfl) ?_
        refine z_iconst C (zd tX12_line 41 rfl) ?_
        refine z_iconst C (zd tX12_line 42 rfl) ?_
        refine z_bipush C (by decide) (zd tX12_line 43 rfl) ?_
        obtain ⟨v42, r43, cv42, h⟩ := zcl_some h
        refine zc_VA C ho hz hRm (qX12_oneLine _ _ _ _ (zR_c 1 rfl) (zR_c 0 rfl) (zR_c 0 rfl) (zR_c 14 rfl) p9.1 cv42) (lg_137 ho) (by decide) rfl (zgV zwd_1149 zwd_1151 zws_42 zwd_13 zwd_1152) rfl pX12_oneLine rfl ⟨rfl, rfl⟩ ⟨Nat.le_of_ble_eq_true rfl, Nat.le_of_ble_eq_true rfl⟩ (k' := 3) (n' := 24) ⟨rfl, rfl⟩ ⟨Nat.le_of_ble_eq_true rfl, Nat.le_of_ble_eq_true rfl⟩ [] rfl (Nat.le_of_ble_eq_true rfl) (zd tX12_line 44 rfl) [zi r43] rfl (fun p44 => ?_)
        obtain ⟨q45, h⟩ := zck_some h
        refine z_widen (k' := 13) (n' := 104) (by decide) (by decide) ?_
        obtain ⟨rfl, rfl⟩ := zpi h
        exact ret.1 _ _ _ _ ⟨p44.1, p44.2⟩ rfl rfl (zbool_n q45) (zd tX12_line 45 rfl)
    · refine z_aload_n C (zd tX12_line 25 rfl) rfl ?_
      obtain ⟨v46, r47, cv46, h⟩ := zcl_some h
      refine zc_VA C ho hz hRm (qX12_feastLine _ _ _ _ p6.1 cv46) (lg_137 ho) (by decide) rfl (zgV zwd_1145 zwd_1147 zws_41 zwd_13 zwd_1148) rfl pX12_feastLine rfl ⟨rfl, rfl⟩ ⟨Nat.le_of_ble_eq_true rfl, Nat.le_of_ble_eq_true rfl⟩ (k' := 2) (n' := 16) ⟨rfl, rfl⟩ ⟨Nat.le_of_ble_eq_true rfl, Nat.le_of_ble_eq_true rfl⟩ [] rfl (Nat.le_of_ble_eq_true rfl) (zd tX12_line 26 rfl) [zi r47] rfl (fun p48 => ?_)
      obtain ⟨q49, h⟩ := zck_some h
      refine z_widen (k' := 13) (n' := 104) (by decide) (by decide) ?_
      obtain ⟨rfl, rfl⟩ := zpi h
      exact ret.1 _ _ _ _ ⟨p48.1, p48.2⟩ rfl rfl (zbool_n q49) (zd tX12_line 27 rfl)
  · refine z_aload_n C (zd tX12_line 11 rfl) rfl ?_
    obtain ⟨v50, r51, cv50, h⟩ := zcl_some h
    refine zc_VA C ho hz hRm (qX12_clockLine _ _ _ _ p3.1 cv50) (lg_137 ho) (by decide) rfl (zgV zwd_1129 zwd_1131 zws_37 zwd_13 zwd_1132) rfl pX12_clockLine rfl ⟨rfl, rfl⟩ ⟨Nat.le_of_ble_eq_true rfl, Nat.le_of_ble_eq_true rfl⟩ (k' := 3) (n' := 24) ⟨rfl, rfl⟩ ⟨Nat.le_of_ble_eq_true rfl, Nat.le_of_ble_eq_true rfl⟩ [] rfl (Nat.le_of_ble_eq_true rfl) (zd tX12_line 12 rfl) [zi r51] rfl (fun p52 => ?_)
    obtain ⟨q53, h⟩ := zck_some h
    refine z_widen (k' := 13) (n' := 104) (by decide) (by decide) ?_
    obtain ⟨rfl, rfl⟩ := zpi h
    exact ret.1 _ _ _ _ ⟨p52.1, p52.2⟩ rfl rfl (zbool_n q53) (zd tX12_line 13 rfl)
noncomputable def vsX12_moment : List Cond := .code yX12_moment cX12_moment 4 (some .int) :: zbig
abbrev rmX12_moment : Room := { frames := 2, cells := 0, slots := 0, locals := 48 }
theorem pX12_moment : yX12_moment.cls = RX12 ∧ yX12_moment.cls ≠ "java/lang/invoke/MethodHandle" ∧ yX12_moment.cls ≠ "java/lang/invoke/VarHandle" ∧ (parseMethodDescriptor yX12_moment.desc).map (fun d => d.parameters.length) = some 3 := by decide +kernel
set_option maxRecDepth 100000 in
set_option maxHeartbeats 4000000 in
theorem qX12_moment (l : Launch) (D : va_G) (ids : Nat → ClassId) (b : Nat) {x1 : Int} (Rx1 : zR x1) {x2 : Int} (Rx2 : zR x2) {x3 : Int} (Rx3 : zR x3) {v v' : zHp} {r' : Int} (hv : zV 137 24 v) (h : fX12_moment v x1 x2 x3 = some (v', r')) : zCT l yX12_moment vsX12_moment rmX12_moment D ids b 137 False 24 [zr 137, zi x1, zi x2, zi x3] v 24 (zV 137 24 v' ∧ zR r') (some (zi r')) v' 0 0 := by
  refine zMet (own := RX12) (by decide +kernel) (show vsX12_moment = _ from rfl) (Nat.le_of_ble_eq_true rfl) rfl ?_
  intro E hl hRm hD hids hb ho hz hN C hname ret
  subst hl hD hids hb
  unfold fX12_moment at h
  refine z_aload_n C (zd tX12_moment 0 rfl) rfl ?_
  refine z_iconst C (zd tX12_moment 1 rfl) ?_
  obtain ⟨v1, ev1, h⟩ := zb_some h
  have hv1 : zV 137 24 v1 := by rw [ev1]; exact hv.st (zR_c 0 rfl) (lg_137 ho).1 (Or.inr rfl)
  refine pf_12_0 C (lg_137 ho) zic_12 (zm zwd_990) ev1 (zd tX12_moment 2 rfl) ?_
  refine z_aload_n C (zd tX12_moment 3 rfl) rfl ?_
  refine z_iload_n C (zd tX12_moment 4 rfl) rfl ?_
  refine z_iload_n C (zd tX12_moment 5 rfl) rfl ?_
  refine z_iload_n C (zd tX12_moment 6 rfl) rfl ?_
  obtain ⟨v2, r3, cv2, h⟩ := zcl_some h
  refine zc_V C ho hz hRm (qX12_momentOf _ _ _ _ Rx1 Rx2 Rx3 hv1 cv2) (lg_137 ho) (by decide) rfl (zgV zwd_1185 zwd_1187 zws_48 zwd_13 zwd_1188) rfl pX12_momentOf rfl ⟨rfl, rfl⟩ ⟨Nat.le_of_ble_eq_true rfl, Nat.le_of_ble_eq_true rfl⟩ [] rfl (Nat.le_of_ble_eq_true rfl) (zd tX12_moment 7 rfl) [zi r3] rfl (fun p4 => ?_)
  obtain ⟨rfl, rfl⟩ := zpi h
  exact ret.1 _ _ _ _ ⟨p4.1, p4.2⟩ rfl rfl rfl (zd tX12_moment 8 rfl)
noncomputable def vsX12_notes : List Cond := .code yX12_notes cX12_notes 6 none :: zbig
abbrev rmX12_notes : Room := { frames := 0, cells := 0, slots := 0, locals := 0 }
theorem pX12_notes : yX12_notes.cls = RX12 ∧ yX12_notes.cls ≠ "java/lang/invoke/MethodHandle" ∧ yX12_notes.cls ≠ "java/lang/invoke/VarHandle" ∧ (parseMethodDescriptor yX12_notes.desc).map (fun d => d.parameters.length) = some 4 := by decide +kernel
set_option maxRecDepth 100000 in
set_option maxHeartbeats 4000000 in
theorem jX12_notes_J51 {E : zE} (C : zC E 24 cX12_notes RX12 vsX12_notes) (hN : zEN E = 6) (ho : zEo E = 137) (hz : zEz E = False) (hRm : zER E = rmX12_notes) {v' : zHp} {r' : Int} (ret : zRet E cX12_notes 0 0 24 none (zV 137 24 v') none v') (v : zHp) (x1 : Int) (x2 : Int) (x3 : Int) (x4 : Int) (h : fX12_notes_J51 v x1 x2 x3 x4 = some (v', r')) (hv : zV 137 24 v) (Rx1 : zR x1) (Rx2 : zR x2) (Rx3 : zR x3) (Rx4 : zR x4) : zX E 0 0 24 v 51 [some (zr 137), some (zi x1), some (zi x2), some (zi x3), some (zi x4), none] [] := by
  unfold fX12_notes_J51 at h
  refine z_aload_n C (zd tX12_notes 27 rfl) rfl ?_
  refine gl_12_17 (t := 144) C (lg_137 ho) zic_12 (zm zwd_1007) (vl_12_17 ho hv (lg_137 ho)) (zd tX12_notes 28 rfl) ?_
  refine z_iconst C (zd tX12_notes 29 rfl) ?_
  refine z_aload_n C (zd tX12_notes 30 rfl) rfl ?_
  refine gf_12_16 C (lg_137 ho) zic_12 (zm zwd_1006) (zd tX12_notes 31 rfl) ?_
  refine z_imul C (zd tX12_notes 32 rfl) ?_
  refine z_iload_n C (zd tX12_notes 33 rfl) rfl ?_
  obtain ⟨q1, h⟩ := zck_some h
  obtain ⟨v2, ev2, h⟩ := zb_some h
  have hv2 : zV 137 24 v2 := by rw [ev2]; exact hv.st Rx1 (lg_144 ho).1 (Or.inr rfl)
  refine za_iast C (lg_144 ho) rfl (by decide) q1 ev2 (zd tX12_notes 34 rfl) ?_
  refine z_aload_n C (zd tX12_notes 35 rfl) rfl ?_
  refine gl_12_17 (t := 144) C (lg_137 ho) zic_12 (zm zwd_1007) (vl_12_17 ho hv2 (lg_137 ho)) (zd tX12_notes 36 rfl) ?_
  refine z_iconst C (zd tX12_notes 37 rfl) ?_
  refine z_aload_n C (zd tX12_notes 38 rfl) rfl ?_
  refine gf_12_16 C (lg_137 ho) zic_12 (zm zwd_1006) (zd tX12_notes 39 rfl) ?_
  refine z_imul C (zd tX12_notes 40 rfl) ?_
  refine z_iconst C (zd tX12_notes 41 rfl) ?_
  refine z_iadd C (zd tX12_notes 42 rfl) ?_
  refine z_iload_n C (zd tX12_notes 43 rfl) rfl ?_
  obtain ⟨q3, h⟩ := zck_some h
  obtain ⟨v4, ev4, h⟩ := zb_some h
  have hv4 : zV 137 24 v4 := by rw [ev4]; exact hv2.st Rx2 (lg_144 ho).1 (Or.inr rfl)
  refine za_iast C (lg_144 ho) rfl (by decide) q3 ev4 (zd tX12_notes 44 rfl) ?_
  refine z_aload_n C (zd tX12_notes 45 rfl) rfl ?_
  refine gl_12_17 (t := 144) C (lg_137 ho) zic_12 (zm zwd_1007) (vl_12_17 ho hv4 (lg_137 ho)) (zd tX12_notes 46 rfl) ?_
  refine z_iconst C (zd tX12_notes 47 rfl) ?_
  refine z_aload_n C (zd tX12_notes 48 rfl) rfl ?_
  refine gf_12_16 C (lg_137 ho) zic_12 (zm zwd_1006) (zd tX12_notes 49 rfl) ?_
  refine z_imul C (zd tX12_notes 50 rfl) ?_
  refine z_iconst C (zd tX12_notes 51 rfl) ?_
  refine z_iadd C (zd tX12_notes 52 rfl) ?_
  refine z_iload_n C (zd tX12_notes 53 rfl) rfl ?_
  obtain ⟨q5, h⟩ := zck_some h
  obtain ⟨v6, ev6, h⟩ := zb_some h
  have hv6 : zV 137 24 v6 := by rw [ev6]; exact hv4.st Rx3 (lg_144 ho).1 (Or.inr rfl)
  refine za_iast C (lg_144 ho) rfl (by decide) q5 ev6 (zd tX12_notes 54 rfl) ?_
  refine z_aload_n C (zd tX12_notes 55 rfl) rfl ?_
  refine gl_12_17 (t := 144) C (lg_137 ho) zic_12 (zm zwd_1007) (vl_12_17 ho hv6 (lg_137 ho)) (zd tX12_notes 56 rfl) ?_
  refine z_iconst C (zd tX12_notes 57 rfl) ?_
  refine z_aload_n C (zd tX12_notes 58 rfl) rfl ?_
  refine gf_12_16 C (lg_137 ho) zic_12 (zm zwd_1006) (zd tX12_notes 59 rfl) ?_
  refine z_imul C (zd tX12_notes 60 rfl) ?_
  refine z_iconst C (zd tX12_notes 61 rfl) ?_
  refine z_iadd C (zd tX12_notes 62 rfl) ?_
  refine z_iload C (zd tX12_notes 63 rfl) rfl ?_
  obtain ⟨q7, h⟩ := zck_some h
  obtain ⟨v8, ev8, h⟩ := zb_some h
  have hv8 : zV 137 24 v8 := by rw [ev8]; exact hv6.st Rx4 (lg_144 ho).1 (Or.inr rfl)
  refine za_iast C (lg_144 ho) rfl (by decide) q7 ev8 (zd tX12_notes 64 rfl) ?_
  refine z_aload_n C (zd tX12_notes 65 rfl) rfl ?_
  refine z_dup C (zd tX12_notes 66 rfl) ?_
  refine gf_12_16 C (lg_137 ho) zic_12 (zm zwd_1006) (zd tX12_notes 67 rfl) ?_
  refine z_iconst C (zd tX12_notes 68 rfl) ?_
  refine z_iadd C (zd tX12_notes 69 rfl) ?_
  obtain ⟨t9, et9, Rt9, h⟩ := zn_some h
  refine z_n0 (congrArg zI et9.symm) ?_
  obtain ⟨v10, ev10, h⟩ := zb_some h
  have hv10 : zV 137 24 v10 := by rw [ev10]; exact hv8.st Rt9 (lg_137 ho).1 (Or.inr rfl)
  refine pf_12_16 C (lg_137 ho) zic_12 (zm zwd_1006) ev10 (zd tX12_notes 70 rfl) ?_
  obtain ⟨rfl, rfl⟩ := zpi h
  exact ret.2.1 _ _ hv10 rfl rfl (zd tX12_notes 71 rfl)
set_option maxRecDepth 100000 in
set_option maxHeartbeats 4000000 in
theorem bX12_notes_L12 {E : zE} (C : zC E 24 cX12_notes RX12 vsX12_notes) (hN : zEN E = 6) (ho : zEo E = 137) (hz : zEz E = False) (hRm : zER E = rmX12_notes) : ∀ (fu : Nat) (v : zHp) (x1 : Int) (x2 : Int) (x3 : Int) (x4 : Int) (x5 : Int) (res : (zHp × (Int))), fX12_notes_L12 fu v x1 x2 x3 x4 x5 = some res → zV 137 24 v → zR x1 → zR x2 → zR x3 → zR x4 → zR x5 → (∀ (w : zHp) (q : Int), res = (w, q) → zV 137 24 w → True → zX E 0 0 24 w 41 [some (zr 137), some (zi x1), some (zi x2), some (zi x3), some (zi x4), none] []) → zX E 0 0 24 v 12 [some (zr 137), some (zi x1), some (zi x2), some (zi x3), some (zi x4), some (zi x5)] [] := by
  intro fu
  induction fu with
  | zero =>
    intro v _ _ _ _ _ res h
    cases h
  | succ fu ih =>
    intro v x1 x2 x3 x4 x5 res h hv Rx1 Rx2 Rx3 Rx4 Rx5 K1
    rw [fX12_notes_L12.eq_2] at h
    refine z_iload C (zd tX12_notes 6 rfl) rfl ?_
    refine z_bipush C (by decide) (zd tX12_notes 7 rfl) ?_
    refine z_icmp_ge (tgt := 41) C Rx5 (zR_c 60 rfl) (zd tX12_notes 8 rfl) (by decide) h (fun h => ?_) (fun h => ?_)
    · refine z_sub (lo' := [some (zr 137), some (zi x1), some (zi x2), some (zi x3), some (zi x4), none]) (zsub_s (zsub_s (zsub_s (zsub_s (zsub_s (zsub_n zsub_0)))))) ?_
      exact K1 _ _ (Option.some.inj h).symm hv trivial
    · refine z_aload_n C (zd tX12_notes 9 rfl) rfl ?_
      refine gl_12_17 (t := 144) C (lg_137 ho) zic_12 (zm zwd_1007) (vl_12_17 ho hv (lg_137 ho)) (zd tX12_notes 10 rfl) ?_
      refine z_iload C (zd tX12_notes 11 rfl) rfl ?_
      refine z_aload_n C (zd tX12_notes 12 rfl) rfl ?_
      refine gl_12_17 (t := 144) C (lg_137 ho) zic_12 (zm zwd_1007) (vl_12_17 ho hv (lg_137 ho)) (zd tX12_notes 13 rfl) ?_
      refine z_iload C (zd tX12_notes 14 rfl) rfl ?_
      refine z_iconst C (zd tX12_notes 15 rfl) ?_
      refine z_iadd C (zd tX12_notes 16 rfl) ?_
      obtain ⟨q11, h⟩ := zck_some h
      refine za_iald C (lg_144 ho) rfl (by decide) q11 (zd tX12_notes 17 rfl) ?_
      obtain ⟨q12, h⟩ := zck_some h
      obtain ⟨v13, ev13, h⟩ := zb_some h
      have hv13 : zV 137 24 v13 := by rw [ev13]; exact hv.st (hv.1 _ _) (lg_144 ho).1 (Or.inr rfl)
      refine za_iast C (lg_144 ho) rfl (by decide) q12 ev13 (zd tX12_notes 18 rfl) ?_
      obtain ⟨t14, et14, Rt14, h⟩ := zn_some h
      refine z_iincE C (zd tX12_notes 19 rfl) (by rw [hN]; decide) rfl et14 ?_
      refine z_goto (tgt := 12) C (zd tX12_notes 20 rfl) (by decide) ?_
      refine z_sub (lo' := [some (zr 137), some (zi x1), some (zi x2), some (zi x3), some (zi x4), some (zi t14)]) (zsub_s (zsub_s (zsub_s (zsub_s (zsub_s (zsub_s zsub_0)))))) ?_
      exact ih v13 x1 x2 x3 x4 t14 _ h hv13 Rx1 Rx2 Rx3 Rx4 Rt14 K1
set_option maxRecDepth 100000 in
set_option maxHeartbeats 4000000 in
theorem qX12_notes (l : Launch) (D : va_G) (ids : Nat → ClassId) (b : Nat) {x1 : Int} (Rx1 : zR x1) {x2 : Int} (Rx2 : zR x2) {x3 : Int} (Rx3 : zR x3) {x4 : Int} (Rx4 : zR x4) {v v' : zHp} {r' : Int} (hv : zV 137 24 v) (h : fX12_notes v x1 x2 x3 x4 = some (v', r')) : zCT l yX12_notes vsX12_notes rmX12_notes D ids b 137 False 24 [zr 137, zi x1, zi x2, zi x3, zi x4] v 24 (zV 137 24 v') none v' 0 0 := by
  refine zMet (own := RX12) (by decide +kernel) (show vsX12_notes = _ from rfl) (Nat.le_of_ble_eq_true rfl) rfl ?_
  intro E hl hRm hD hids hb ho hz hN C hname ret
  subst hl hD hids hb
  unfold fX12_notes at h
  refine z_aload_n C (zd tX12_notes 0 rfl) rfl ?_
  refine gf_12_16 C (lg_137 ho) zic_12 (zm zwd_1006) (zd tX12_notes 1 rfl) ?_
  refine z_bipush C (by decide) (zd tX12_notes 2 rfl) ?_
  refine z_icmp_ne (tgt := 51) C (hv.1 _ _) (zR_c 16 rfl) (zd tX12_notes 3 rfl) (by decide) h (fun h => ?_) (fun h => ?_)
  · refine z_sub (lo' := [some (zr 137), some (zi x1), some (zi x2), some (zi x3), some (zi x4), none]) (zsub_s (zsub_s (zsub_s (zsub_s (zsub_s (zsub_n zsub_0)))))) ?_
    exact jX12_notes_J51 C hN ho hz hRm ret v x1 x2 x3 x4 h hv Rx1 Rx2 Rx3 Rx4
  · refine z_iconst C (zd tX12_notes 4 rfl) ?_
    refine z_istore C (zd tX12_notes 5 rfl) (by rw [hN]; decide) ?_
    refine z_sub (lo' := [some (zr 137), some (zi x1), some (zi x2), some (zi x3), some (zi x4), some (zi 0)]) (zsub_s (zsub_s (zsub_s (zsub_s (zsub_s (zsub_s zsub_0)))))) ?_
    obtain ⟨v15, w16, lv15, h⟩ := zl_some h
    refine bX12_notes_L12 C hN ho hz hRm zFU v x1 x2 x3 x4 0 _ lv15 hv Rx1 Rx2 Rx3 Rx4 (zR_c 0 rfl) (fun w1 q1 e1 hv15 Rw16 => ?_)
    obtain ⟨rfl, rfl⟩ := zpp e1
    refine z_aload_n C (zd tX12_notes 21 rfl) rfl ?_
    refine z_dup C (zd tX12_notes 22 rfl) ?_
    refine gf_12_16 C (lg_137 ho) zic_12 (zm zwd_1006) (zd tX12_notes 23 rfl) ?_
    refine z_iconst C (zd tX12_notes 24 rfl) ?_
    refine z_isub C (zd tX12_notes 25 rfl) ?_
    obtain ⟨t17, et17, Rt17, h⟩ := zn_some h
    refine z_n0 (congrArg zI et17.symm) ?_
    obtain ⟨v18, ev18, h⟩ := zb_some h
    have hv18 : zV 137 24 v18 := by rw [ev18]; exact hv15.st Rt17 (lg_137 ho).1 (Or.inr rfl)
    refine pf_12_16 C (lg_137 ho) zic_12 (zm zwd_1006) ev18 (zd tX12_notes 26 rfl) ?_
    refine z_sub (lo' := [some (zr 137), some (zi x1), some (zi x2), some (zi x3), some (zi x4), none]) (zsub_s (zsub_s (zsub_s (zsub_s (zsub_s (zsub_n zsub_0)))))) ?_
    exact jX12_notes_J51 C hN ho hz hRm ret v18 x1 x2 x3 x4 h hv18 Rx1 Rx2 Rx3 Rx4
noncomputable def vsX12_pay : List Cond := .code yX12_pay cX12_pay 6 (some .int) :: zbig
abbrev rmX12_pay : Room := { frames := 6, cells := 0, slots := 0, locals := 139 }
theorem pX12_pay : yX12_pay.cls = RX12 ∧ yX12_pay.cls ≠ "java/lang/invoke/MethodHandle" ∧ yX12_pay.cls ≠ "java/lang/invoke/VarHandle" ∧ (parseMethodDescriptor yX12_pay.desc).map (fun d => d.parameters.length) = some 3 := by decide +kernel
set_option maxRecDepth 100000 in
set_option maxHeartbeats 4000000 in
theorem bX12_pay_L35 {E : zE} (C : zC E 24 cX12_pay RX12 vsX12_pay) (hN : zEN E = 6) (ho : zEo E = 137) (hz : zEz E = False) (hRm : zER E = rmX12_pay) : ∀ (fu : Nat) (v : zHp) (x3 : Int) (x4 : Int) (x5 : Int) (res : (zHp × (Int))), fX12_pay_L35 fu v x3 x4 x5 = some res → zV 137 24 v → zR x3 → zR x4 → zR x5 → (∀ (w : zHp) (q : Int), res = (w, q) → zV 137 24 w → zR q → zX E 0 0 24 w 76 [some (zr 137), none, none, none, some (zi q), none] []) → zX E 0 0 24 v 35 [some (zr 137), none, none, some (zi x3), some (zi x4), some (zi x5)] [] := by
  intro fu
  induction fu with
  | zero =>
    intro v _ _ _ res h
    cases h
  | succ fu ih =>
    intro v x3 x4 x5 res h hv Rx3 Rx4 Rx5 K1
    rw [fX12_pay_L35.eq_2] at h
    refine z_iload C (zd tX12_pay 21 rfl) rfl ?_
    refine z_aload_n C (zd tX12_pay 22 rfl) rfl ?_
    refine gf_12_23 C (lg_137 ho) zic_12 (zm zwd_1013) (zd tX12_pay 23 rfl) ?_
    refine z_icmp_ge (tgt := 76) C Rx5 (hv.1 _ _) (zd tX12_pay 24 rfl) (by decide) h (fun h => ?_) (fun h => ?_)
    · refine z_sub (lo' := [some (zr 137), none, none, none, some (zi x4), none]) (zsub_s (zsub_n (zsub_n (zsub_n (zsub_s (zsub_n zsub_0)))))) ?_
      exact K1 _ _ (Option.some.inj h).symm hv Rx4
    · refine z_iload C (zd tX12_pay 25 rfl) rfl ?_
      refine z_aload_n C (zd tX12_pay 26 rfl) rfl ?_
      refine z_iload_n C (zd tX12_pay 27 rfl) rfl ?_
      refine z_if_eq (tgt := 58) C Rx3 (zd tX12_pay 28 rfl) (by decide) h (fun h => ?_) (fun h => ?_)
      · refine z_aload_n C (zd tX12_pay 32 rfl) rfl ?_
        refine gl_12_26 (t := 151) C (lg_137 ho) zic_12 (zm zwd_1016) (vl_12_26 ho hv (lg_137 ho)) (zd tX12_pay 33 rfl) ?_
        refine z_iload C (zd tX12_pay 34 rfl) rfl ?_
        obtain ⟨v11, r12, cv11, h⟩ := zcl_some h
        refine zc_V C ho hz hRm (qX12_hundredths _ _ _ _ (lg_151 ho).1 Rx5 hv cv11) (lg_137 ho) (by decide) rfl (zgV zwd_1351 zwd_1353 zws_78 zwd_13 zwd_1354) rfl pX12_hundredths rfl ⟨rfl, rfl⟩ ⟨Nat.le_of_ble_eq_true rfl, Nat.le_of_ble_eq_true rfl⟩ [zi x4] rfl (Nat.le_of_ble_eq_true rfl) (zd tX12_pay 35 rfl) [zi r12, zi x4] rfl (fun p13 => ?_)
        refine z_iadd C (zd tX12_pay 36 rfl) ?_
        obtain ⟨t14, et14, Rt14, h⟩ := zn_some h
        refine z_n0 (congrArg zI et14.symm) ?_
        refine z_istore C (zd tX12_pay 37 rfl) (by rw [hN]; decide) ?_
        obtain ⟨t15, et15, Rt15, h⟩ := zn_some h
        refine z_iincE C (zd tX12_pay 38 rfl) (by rw [hN]; decide) rfl et15 ?_
        refine z_goto (tgt := 35) C (zd tX12_pay 39 rfl) (by decide) ?_
        refine z_sub (lo' := [some (zr 137), none, none, some (zi x3), some (zi t14), some (zi t15)]) (zsub_s (zsub_n (zsub_n (zsub_s (zsub_s (zsub_s zsub_0)))))) ?_
        exact ih v11 x3 t14 t15 _ h p13.1 Rx3 Rt14 Rt15 K1
      · refine z_aload_n C (zd tX12_pay 29 rfl) rfl ?_
        refine gl_12_27 (t := 152) C (lg_137 ho) zic_12 (zm zwd_1017) (vl_12_27 ho hv (lg_137 ho)) (zd tX12_pay 30 rfl) ?_
        refine z_goto (tgt := 62) C (zd tX12_pay 31 rfl) (by decide) ?_
        refine z_iload C (zd tX12_pay 34 rfl) rfl ?_
        obtain ⟨v16, r17, cv16, h⟩ := zcl_some h
        refine zc_V C ho hz hRm (qX12_hundredths _ _ _ _ (lg_152 ho).1 Rx5 hv cv16) (lg_137 ho) (by decide) rfl (zgV zwd_1351 zwd_1353 zws_78 zwd_13 zwd_1354) rfl pX12_hundredths rfl ⟨rfl, rfl⟩ ⟨Nat.le_of_ble_eq_true rfl, Nat.le_of_ble_eq_true rfl⟩ [zi x4] rfl (Nat.le_of_ble_eq_true rfl) (zd tX12_pay 35 rfl) [zi r17, zi x4] rfl (fun p18 => ?_)
        refine z_iadd C (zd tX12_pay 36 rfl) ?_
        obtain ⟨t19, et19, Rt19, h⟩ := zn_some h
        refine z_n0 (congrArg zI et19.symm) ?_
        refine z_istore C (zd tX12_pay 37 rfl) (by rw [hN]; decide) ?_
        obtain ⟨t20, et20, Rt20, h⟩ := zn_some h
        refine z_iincE C (zd tX12_pay 38 rfl) (by rw [hN]; decide) rfl et20 ?_
        refine z_goto (tgt := 35) C (zd tX12_pay 39 rfl) (by decide) ?_
        refine z_sub (lo' := [some (zr 137), none, none, some (zi x3), some (zi t19), some (zi t20)]) (zsub_s (zsub_n (zsub_n (zsub_s (zsub_s (zsub_s zsub_0)))))) ?_
        exact ih v16 x3 t19 t20 _ h p18.1 Rx3 Rt19 Rt20 K1
set_option maxRecDepth 100000 in
set_option maxHeartbeats 4000000 in
theorem qX12_pay (l : Launch) (D : va_G) (ids : Nat → ClassId) (b : Nat) {x1 : Int} (Rx1 : zR x1) {x2 : Int} (Rx2 : zR x2) {x3 : Int} (Rx3 : zR x3) {v v' : zHp} {r' : Int} (hv : zV 137 24 v) (h : fX12_pay v x1 x2 x3 = some (v', r')) : zCT l yX12_pay vsX12_pay rmX12_pay D ids b 137 False 24 [zr 137, zi x1, zi x2, zi x3] v 24 (zV 137 24 v' ∧ zR r') (some (zi r')) v' 0 0 := by
  refine zMet (own := RX12) (by decide +kernel) (show vsX12_pay = _ from rfl) (Nat.le_of_ble_eq_true rfl) rfl ?_
  intro E hl hRm hD hids hb ho hz hN C hname ret
  subst hl hD hids hb
  unfold fX12_pay at h
  refine z_aload_n C (zd tX12_pay 0 rfl) rfl ?_
  refine z_iconst C (zd tX12_pay 1 rfl) ?_
  obtain ⟨v1, ev1, h⟩ := zb_some h
  have hv1 : zV 137 24 v1 := by rw [ev1]; exact hv.st (zR_c 0 rfl) (lg_137 ho).1 (Or.inr rfl)
  refine pf_12_0 C (lg_137 ho) zic_12 (zm zwd_990) ev1 (zd tX12_pay 2 rfl) ?_
  refine z_aload_n C (zd tX12_pay 3 rfl) rfl ?_
  refine z_iload_n C (zd tX12_pay 4 rfl) rfl ?_
  obtain ⟨v2, r3, cv2, h⟩ := zcl_some h
  refine zc_V C ho hz hRm (qX12_isWorker _ _ _ _ Rx1 hv1 cv2) (lg_137 ho) (by decide) rfl (zgV zwd_1211 zwd_1213 zws_52 zwd_13 zwd_1214) rfl pX12_isWorker rfl ⟨rfl, rfl⟩ ⟨Nat.le_of_ble_eq_true rfl, Nat.le_of_ble_eq_true rfl⟩ [] rfl (Nat.le_of_ble_eq_true rfl) (zd tX12_pay 5 rfl) [zi r3] rfl (fun p4 => ?_)
  refine z_if_eq (tgt := 21) C p4.2 (zd tX12_pay 6 rfl) (by decide) h (fun h => ?_) (fun h => ?_)
  · refine z_iconst C (zd tX12_pay 11 rfl) ?_
    obtain ⟨rfl, rfl⟩ := zpi h
    exact ret.1 _ _ _ _ ⟨p4.1, (zR_c (-1) rfl)⟩ rfl rfl rfl (zd tX12_pay 12 rfl)
  · refine z_aload_n C (zd tX12_pay 7 rfl) rfl ?_
    refine z_iload_n C (zd tX12_pay 8 rfl) rfl ?_
    obtain ⟨v5, r6, cv5, h⟩ := zcl_some h
    refine zc_V C ho hz hRm (qX12_isWeek _ _ _ _ Rx2 p4.1 cv5) (lg_137 ho) (by decide) rfl (zgV zwd_1339 zwd_1341 zws_77 zwd_13 zwd_1342) rfl pX12_isWeek rfl ⟨rfl, rfl⟩ ⟨Nat.le_of_ble_eq_true rfl, Nat.le_of_ble_eq_true rfl⟩ [] rfl (Nat.le_of_ble_eq_true rfl) (zd tX12_pay 9 rfl) [zi r6] rfl (fun p7 => ?_)
    refine z_if_ne (tgt := 23) C p7.2 (zd tX12_pay 10 rfl) (by decide) h (fun h => ?_) (fun h => ?_)
    · refine z_aload_n C (zd tX12_pay 13 rfl) rfl ?_
      refine z_iload_n C (zd tX12_pay 14 rfl) rfl ?_
      refine z_iload_n C (zd tX12_pay 15 rfl) rfl ?_
      obtain ⟨v8, r9, cv8, h⟩ := zcl_some h
      refine zc_V C ho hz hRm (qX12_laysWeek _ _ _ _ Rx1 Rx2 p7.1 cv8) (lg_137 ho) (by decide) rfl (zgV zwd_1275 zwd_1277 zws_63 zwd_13 zwd_1278) rfl pX12_laysWeek rfl ⟨rfl, rfl⟩ ⟨Nat.le_of_ble_eq_true rfl, Nat.le_of_ble_eq_true rfl⟩ [] rfl (Nat.le_of_ble_eq_true rfl) (zd tX12_pay 16 rfl) [] rfl (fun p10 => ?_)
      refine z_iconst C (zd tX12_pay 17 rfl) ?_
      refine z_istore C (zd tX12_pay 18 rfl) (by rw [hN]; decide) ?_
      refine z_iconst C (zd tX12_pay 19 rfl) ?_
      refine z_istore C (zd tX12_pay 20 rfl) (by rw [hN]; decide) ?_
      refine z_sub (lo' := [some (zr 137), none, none, some (zi x3), some (zi 0), some (zi 0)]) (zsub_s (zsub_n (zsub_n (zsub_s (zsub_s (zsub_s zsub_0)))))) ?_
      obtain ⟨v21, w22, lv21, h⟩ := zl_some h
      refine bX12_pay_L35 C hN ho hz hRm zFU v8 x3 0 0 _ lv21 p10 Rx3 (zR_c 0 rfl) (zR_c 0 rfl) (fun w1 q1 e1 hv21 Rw22 => ?_)
      obtain ⟨rfl, rfl⟩ := zpp e1
      refine z_aload_n C (zd tX12_pay 40 rfl) rfl ?_
      refine gl_12_10 (t := 139) C (lg_137 ho) zic_12 (zm zwd_1000) (vl_12_10 ho hv21 (lg_137 ho)) (zd tX12_pay 41 rfl) ?_
      refine z_iconst C (zd tX12_pay 42 rfl) ?_
      obtain ⟨q23, h⟩ := zck_some h
      refine za_iald C (lg_139 ho) rfl (by decide) q23 (zd tX12_pay 43 rfl) ?_
      refine z_iload C (zd tX12_pay 44 rfl) rfl ?_
      refine z_imul C (zd tX12_pay 45 rfl) ?_
      obtain ⟨t24, et24, Rt24, h⟩ := zn_some h
      refine z_n0 (congrArg zI et24.symm) ?_
      obtain ⟨rfl, rfl⟩ := zpi h
      exact ret.1 _ _ _ _ ⟨hv21, Rt24⟩ rfl rfl rfl (zd tX12_pay 46 rfl)
    · refine z_iconst C (zd tX12_pay 11 rfl) ?_
      obtain ⟨rfl, rfl⟩ := zpi h
      exact ret.1 _ _ _ _ ⟨p7.1, (zR_c (-1) rfl)⟩ rfl rfl rfl (zd tX12_pay 12 rfl)
noncomputable def vsX12_premium : List Cond := .code yX12_premium cX12_premium 3 (some .int) :: zbig
abbrev rmX12_premium : Room := { frames := 1, cells := 0, slots := 0, locals := 22 }
theorem pX12_premium : yX12_premium.cls = RX12 ∧ yX12_premium.cls ≠ "java/lang/invoke/MethodHandle" ∧ yX12_premium.cls ≠ "java/lang/invoke/VarHandle" ∧ (parseMethodDescriptor yX12_premium.desc).map (fun d => d.parameters.length) = some 2 := by decide +kernel
set_option maxRecDepth 100000 in
set_option maxHeartbeats 4000000 in
theorem jX12_premium_J29 {E : zE} (C : zC E 24 cX12_premium RX12 vsX12_premium) (hN : zEN E = 3) (ho : zEo E = 137) (hz : zEz E = False) (hRm : zER E = rmX12_premium) {v' : zHp} {r' : Int} (ret : zRet E cX12_premium 0 0 24 (some .int) (zV 137 24 v' ∧ zR r') (some (zi r')) v') (v : zHp) (x1 : Int) (x2 : Int) (s1 : Int) (h : fX12_premium_J29 v x1 x2 s1 = some (v', r')) (hv : zV 137 24 v) (Rx1 : zR x1) (Rx2 : zR x2) (Rs1 : zR s1) : zX E 0 0 24 v 29 [some (zr 137), some (zi x1), some (zi x2)] [zi s1, zr 137] := by
  unfold fX12_premium_J29 at h
  obtain ⟨v8, ev8, h⟩ := zb_some h
  have hv8 : zV 137 24 v8 := by rw [ev8]; exact hv.st Rs1 (lg_137 ho).1 (Or.inr rfl)
  refine pf_12_0 C (lg_137 ho) zic_12 (zm zwd_990) ev8 (zd tX12_premium 17 rfl) ?_
  refine z_aload_n C (zd tX12_premium 18 rfl) rfl ?_
  refine gf_12_0 C (lg_137 ho) zic_12 (zm zwd_990) (zd tX12_premium 19 rfl) ?_
  refine z_if_le (tgt := 43) C (hv8.1 _ _) (zd tX12_premium 20 rfl) (by decide) h (fun h => ?_) (fun h => ?_)
  · refine z_aload_n C (zd tX12_premium 23 rfl) rfl ?_
    refine z_iload_n C (zd tX12_premium 24 rfl) rfl ?_
    refine z_iload_n C (zd tX12_premium 25 rfl) rfl ?_
    obtain ⟨v9, r10, cv9, h⟩ := zcl_some h
    refine zc_V C ho hz hRm (qX12_premiumIs _ _ _ _ Rx1 Rx2 hv8 cv9) (lg_137 ho) (by decide) rfl (zgV zwd_1177 zwd_1179 zws_47 zwd_13 zwd_1180) rfl pX12_premiumIs rfl ⟨rfl, rfl⟩ ⟨Nat.le_of_ble_eq_true rfl, Nat.le_of_ble_eq_true rfl⟩ [] rfl (Nat.le_of_ble_eq_true rfl) (zd tX12_premium 26 rfl) [zi r10] rfl (fun p11 => ?_)
    obtain ⟨rfl, rfl⟩ := zpi h
    exact ret.1 _ _ _ _ ⟨p11.1, p11.2⟩ rfl rfl rfl (zd tX12_premium 27 rfl)
  · refine z_iconst C (zd tX12_premium 21 rfl) ?_
    refine z_goto (tgt := 49) C (zd tX12_premium 22 rfl) (by decide) ?_
    obtain ⟨rfl, rfl⟩ := zpi h
    exact ret.1 _ _ _ _ ⟨hv8, (zR_c 0 rfl)⟩ rfl rfl rfl (zd tX12_premium 27 rfl)
set_option maxRecDepth 100000 in
set_option maxHeartbeats 4000000 in
theorem jX12_premium_J28 {E : zE} (C : zC E 24 cX12_premium RX12 vsX12_premium) (hN : zEN E = 3) (ho : zEo E = 137) (hz : zEz E = False) (hRm : zER E = rmX12_premium) {v' : zHp} {r' : Int} (ret : zRet E cX12_premium 0 0 24 (some .int) (zV 137 24 v' ∧ zR r') (some (zi r')) v') (v : zHp) (x1 : Int) (x2 : Int) (h : fX12_premium_J28 v x1 x2 = some (v', r')) (hv : zV 137 24 v) (Rx1 : zR x1) (Rx2 : zR x2) : zX E 0 0 24 v 28 [some (zr 137), some (zi x1), some (zi x2)] [zr 137] := by
  unfold fX12_premium_J28 at h
  refine z_iconst C (zd tX12_premium 16 rfl) ?_
  refine z_sub (lo' := [some (zr 137), some (zi x1), some (zi x2)]) (zsub_s (zsub_s (zsub_s zsub_0))) ?_
  exact jX12_premium_J29 C hN ho hz hRm ret v x1 x2 1 h hv Rx1 Rx2 (zR_c 1 rfl)
set_option maxRecDepth 100000 in
set_option maxHeartbeats 4000000 in
theorem qX12_premium (l : Launch) (D : va_G) (ids : Nat → ClassId) (b : Nat) {x1 : Int} (Rx1 : zR x1) {x2 : Int} (Rx2 : zR x2) {v v' : zHp} {r' : Int} (hv : zV 137 24 v) (h : fX12_premium v x1 x2 = some (v', r')) : zCT l yX12_premium vsX12_premium rmX12_premium D ids b 137 False 24 [zr 137, zi x1, zi x2] v 24 (zV 137 24 v' ∧ zR r') (some (zi r')) v' 0 0 := by
  refine zMet (own := RX12) (by decide +kernel) (show vsX12_premium = _ from rfl) (Nat.le_of_ble_eq_true rfl) rfl ?_
  intro E hl hRm hD hids hb ho hz hN C hname ret
  subst hl hD hids hb
  unfold fX12_premium at h
  refine z_aload_n C (zd tX12_premium 0 rfl) rfl ?_
  refine z_iload_n C (zd tX12_premium 1 rfl) rfl ?_
  refine z_iconst C (zd tX12_premium 2 rfl) ?_
  refine z_aload_n C (zd tX12_premium 3 rfl) rfl ?_
  obtain ⟨v1, r2, cv1, h⟩ := zcl_some h
  refine zc_V C ho hz hRm (qX12_premiums _ _ _ _ hv cv1) (lg_137 ho) (by decide) rfl (zgV zwd_1173 zwd_1175 zws_46 zwd_13 zwd_1176) rfl pX12_premiums rfl ⟨rfl, rfl⟩ ⟨Nat.le_of_ble_eq_true rfl, Nat.le_of_ble_eq_true rfl⟩ [zi 0, zi x1, zr 137] rfl (Nat.le_of_ble_eq_true rfl) (zd tX12_premium 4 rfl) [zi r2, zi 0, zi x1, zr 137] rfl (fun p3 => ?_)
  refine z_iconst C (zd tX12_premium 5 rfl) ?_
  refine z_isub C (zd tX12_premium 6 rfl) ?_
  obtain ⟨t4, et4, Rt4, h⟩ := zn_some h
  refine z_nk 0 (congrArg zI et4.symm) rfl ?_
  obtain ⟨v5, r6, cv5, h⟩ := zcl_some h
  refine zc_S C ho hz hRm (qX12_within _ _ _ _ Rx1 (zR_c 0 rfl) Rt4 p3.1 cv5) (zgS zwd_1109 zwd_1110 zwd_13 zwd_1111) rfl pX12_within rfl ⟨rfl, rfl⟩ ⟨Nat.le_of_ble_eq_true rfl, Nat.le_of_ble_eq_true rfl⟩ [zr 137] rfl (Nat.le_of_ble_eq_true rfl) (zd tX12_premium 7 rfl) [zi r6, zr 137] rfl (fun p7 => ?_)
  refine z_if_eq (tgt := 28) C p7.2 (zd tX12_premium 8 rfl) (by decide) h (fun h => ?_) (fun h => ?_)
  · refine z_sub (lo' := [some (zr 137), some (zi x1), some (zi x2)]) (zsub_s (zsub_s (zsub_s zsub_0))) ?_
    exact jX12_premium_J28 C hN ho hz hRm ret v5 x1 x2 h p7.1 Rx1 Rx2
  · refine z_iload_n C (zd tX12_premium 9 rfl) rfl ?_
    refine z_iconst C (zd tX12_premium 10 rfl) ?_
    refine z_iconst C (zd tX12_premium 11 rfl) ?_
    obtain ⟨v12, r13, cv12, h⟩ := zcl_some h
    refine zc_S C ho hz hRm (qX12_within _ _ _ _ Rx2 (zR_c 0 rfl) (zR_c 4 rfl) p7.1 cv12) (zgS zwd_1109 zwd_1110 zwd_13 zwd_1111) rfl pX12_within rfl ⟨rfl, rfl⟩ ⟨Nat.le_of_ble_eq_true rfl, Nat.le_of_ble_eq_true rfl⟩ [zr 137] rfl (Nat.le_of_ble_eq_true rfl) (zd tX12_premium 12 rfl) [zi r13, zr 137] rfl (fun p14 => ?_)
    refine z_if_eq (tgt := 28) C p14.2 (zd tX12_premium 13 rfl) (by decide) h (fun h => ?_) (fun h => ?_)
    · refine z_sub (lo' := [some (zr 137), some (zi x1), some (zi x2)]) (zsub_s (zsub_s (zsub_s zsub_0))) ?_
      exact jX12_premium_J28 C hN ho hz hRm ret v12 x1 x2 h p14.1 Rx1 Rx2
    · refine z_iconst C (zd tX12_premium 14 rfl) ?_
      refine z_goto (tgt := 29) C (zd tX12_premium 15 rfl) (by decide) ?_
      refine z_sub (lo' := [some (zr 137), some (zi x1), some (zi x2)]) (zsub_s (zsub_s (zsub_s zsub_0))) ?_
      exact jX12_premium_J29 C hN ho hz hRm ret v12 x1 x2 0 h p14.1 Rx1 Rx2 (zR_c 0 rfl)
noncomputable def vsX12_punch : List Cond := .code yX12_punch cX12_punch 7 (some .int) :: zbig
abbrev rmX12_punch : Room := { frames := 3, cells := 0, slots := 0, locals := 66 }
theorem pX12_punch : yX12_punch.cls = RX12 ∧ yX12_punch.cls ≠ "java/lang/invoke/MethodHandle" ∧ yX12_punch.cls ≠ "java/lang/invoke/VarHandle" ∧ (parseMethodDescriptor yX12_punch.desc).map (fun d => d.parameters.length) = some 5 := by decide +kernel
set_option maxRecDepth 100000 in
set_option maxHeartbeats 4000000 in
theorem qX12_punch (l : Launch) (D : va_G) (ids : Nat → ClassId) (b : Nat) {x1 : Int} (Rx1 : zR x1) {x2 : Int} (Rx2 : zR x2) {x3 : Int} (Rx3 : zR x3) {x4 : Int} (Rx4 : zR x4) {x5 : Int} (Rx5 : zR x5) {v v' : zHp} {r' : Int} (hv : zV 137 24 v) (h : fX12_punch v x1 x2 x3 x4 x5 = some (v', r')) : zCT l yX12_punch vsX12_punch rmX12_punch D ids b 137 False 24 [zr 137, zi x1, zi x2, zi x3, zi x4, zi x5] v 24 (zV 137 24 v' ∧ zR r') (some (zi r')) v' 0 0 := by
  refine zMet (own := RX12) (by decide +kernel) (show vsX12_punch = _ from rfl) (Nat.le_of_ble_eq_true rfl) rfl ?_
  intro E hl hRm hD hids hb ho hz hN C hname ret
  subst hl hD hids hb
  unfold fX12_punch at h
  refine z_aload_n C (zd tX12_punch 0 rfl) rfl ?_
  refine z_iconst C (zd tX12_punch 1 rfl) ?_
  obtain ⟨v1, ev1, h⟩ := zb_some h
  have hv1 : zV 137 24 v1 := by rw [ev1]; exact hv.st (zR_c 0 rfl) (lg_137 ho).1 (Or.inr rfl)
  refine pf_12_0 C (lg_137 ho) zic_12 (zm zwd_990) ev1 (zd tX12_punch 2 rfl) ?_
  refine z_aload_n C (zd tX12_punch 3 rfl) rfl ?_
  refine z_iload_n C (zd tX12_punch 4 rfl) rfl ?_
  refine z_iload C (zd tX12_punch 5 rfl) rfl ?_
  refine z_iload C (zd tX12_punch 6 rfl) rfl ?_
  obtain ⟨v2, r3, cv2, h⟩ := zcl_some h
  refine zc_V C ho hz hRm (qX12_momentOf _ _ _ _ Rx3 Rx4 Rx5 hv1 cv2) (lg_137 ho) (by decide) rfl (zgV zwd_1185 zwd_1187 zws_48 zwd_13 zwd_1188) rfl pX12_momentOf rfl ⟨rfl, rfl⟩ ⟨Nat.le_of_ble_eq_true rfl, Nat.le_of_ble_eq_true rfl⟩ [] rfl (Nat.le_of_ble_eq_true rfl) (zd tX12_punch 7 rfl) [zi r3] rfl (fun p4 => ?_)
  refine z_istore C (zd tX12_punch 8 rfl) (by rw [hN]; decide) ?_
  refine z_aload_n C (zd tX12_punch 9 rfl) rfl ?_
  refine z_iload_n C (zd tX12_punch 10 rfl) rfl ?_
  refine z_iload_n C (zd tX12_punch 11 rfl) rfl ?_
  refine z_iload C (zd tX12_punch 12 rfl) rfl ?_
  obtain ⟨v5, r6, cv5, h⟩ := zcl_some h
  refine zc_V C ho hz hRm (qX12_canCome _ _ _ _ Rx1 Rx2 p4.2 p4.1 cv5) (lg_137 ho) (by decide) rfl (zgV zwd_1207 zwd_1209 zws_51 zwd_13 zwd_1210) rfl pX12_canCome rfl ⟨rfl, rfl⟩ ⟨Nat.le_of_ble_eq_true rfl, Nat.le_of_ble_eq_true rfl⟩ [] rfl (Nat.le_of_ble_eq_true rfl) (zd tX12_punch 13 rfl) [zi r6] rfl (fun p7 => ?_)
  refine z_if_ne (tgt := 29) C p7.2 (zd tX12_punch 14 rfl) (by decide) h (fun h => ?_) (fun h => ?_)
  · refine z_aload_n C (zd tX12_punch 17 rfl) rfl ?_
    refine z_iload_n C (zd tX12_punch 18 rfl) rfl ?_
    refine z_iload C (zd tX12_punch 19 rfl) rfl ?_
    refine z_iload_n C (zd tX12_punch 20 rfl) rfl ?_
    obtain ⟨v8, r9, cv8, h⟩ := zcl_some h
    refine zc_V C ho hz hRm (qX12_comes _ _ _ _ Rx1 p4.2 Rx2 p7.1 cv8) (lg_137 ho) (by decide) rfl (zgV zwd_1219 zwd_1221 zws_54 zwd_13 zwd_1222) rfl pX12_comes rfl ⟨rfl, rfl⟩ ⟨Nat.le_of_ble_eq_true rfl, Nat.le_of_ble_eq_true rfl⟩ [] rfl (Nat.le_of_ble_eq_true rfl) (zd tX12_punch 21 rfl) [] rfl (fun p10 => ?_)
    refine z_aload_n C (zd tX12_punch 22 rfl) rfl ?_
    refine z_iconst C (zd tX12_punch 23 rfl) ?_
    refine z_iload_n C (zd tX12_punch 24 rfl) rfl ?_
    refine z_iload C (zd tX12_punch 25 rfl) rfl ?_
    refine z_iload_n C (zd tX12_punch 26 rfl) rfl ?_
    obtain ⟨v11, r12, cv11, h⟩ := zcl_some h
    refine zc_V C ho hz hRm (qX12_notes _ _ _ _ (zR_c 0 rfl) Rx1 p4.2 Rx2 p10 cv11) (lg_137 ho) (by decide) rfl (zgV zwd_1223 zwd_1225 zws_55 zwd_13 zwd_1226) rfl pX12_notes rfl ⟨rfl, rfl⟩ ⟨Nat.le_of_ble_eq_true rfl, Nat.le_of_ble_eq_true rfl⟩ [] rfl (Nat.le_of_ble_eq_true rfl) (zd tX12_punch 27 rfl) [] rfl (fun p13 => ?_)
    refine z_aload_n C (zd tX12_punch 28 rfl) rfl ?_
    refine gl_12_13 (t := 141) C (lg_137 ho) zic_12 (zm zwd_1003) (vl_12_13 ho p13 (lg_137 ho)) (zd tX12_punch 29 rfl) ?_
    refine z_iload_n C (zd tX12_punch 30 rfl) rfl ?_
    obtain ⟨q14, h⟩ := zck_some h
    refine za_iald C (lg_141 ho) rfl (by decide) q14 (zd tX12_punch 31 rfl) ?_
    obtain ⟨rfl, rfl⟩ := zpi h
    exact ret.1 _ _ _ _ ⟨p13, (p13.1 _ _)⟩ rfl rfl rfl (zd tX12_punch 32 rfl)
  · refine z_iconst C (zd tX12_punch 15 rfl) ?_
    obtain ⟨rfl, rfl⟩ := zpi h
    exact ret.1 _ _ _ _ ⟨p7.1, (zR_c (-1) rfl)⟩ rfl rfl rfl (zd tX12_punch 16 rfl)
noncomputable def vsX12_punched : List Cond := .code yX12_punched cX12_punched 4 (some .int) :: zbig
abbrev rmX12_punched : Room := { frames := 2, cells := 0, slots := 0, locals := 45 }
theorem pX12_punched : yX12_punched.cls = RX12 ∧ yX12_punched.cls ≠ "java/lang/invoke/MethodHandle" ∧ yX12_punched.cls ≠ "java/lang/invoke/VarHandle" ∧ (parseMethodDescriptor yX12_punched.desc).map (fun d => d.parameters.length) = some 3 := by decide +kernel
set_option maxRecDepth 100000 in
set_option maxHeartbeats 4000000 in
theorem jX12_punched_J18 {E : zE} (C : zC E 24 cX12_punched RX12 vsX12_punched) (hN : zEN E = 4) (ho : zEo E = 137) (hz : zEz E = False) (hRm : zER E = rmX12_punched) {v' : zHp} {r' : Int} (ret : zRet E cX12_punched 0 0 24 (some .int) (zV 137 24 v' ∧ zR r') (some (zi r')) v') (v : zHp) (x1 : Int) (h : fX12_punched_J18 v x1 = some (v', r')) (hv : zV 137 24 v) (Rx1 : zR x1) : zX E 0 0 24 v 18 [some (zr 137), some (zi x1), none, none] [] := by
  unfold fX12_punched_J18 at h
  refine z_aload_n C (zd tX12_punched 10 rfl) rfl ?_
  refine z_iload_n C (zd tX12_punched 11 rfl) rfl ?_
  obtain ⟨v5, r6, cv5, h⟩ := zcl_some h
  refine zc_V C ho hz hRm (qX12_isWorker _ _ _ _ Rx1 hv cv5) (lg_137 ho) (by decide) rfl (zgV zwd_1211 zwd_1213 zws_52 zwd_13 zwd_1214) rfl pX12_isWorker rfl ⟨rfl, rfl⟩ ⟨Nat.le_of_ble_eq_true rfl, Nat.le_of_ble_eq_true rfl⟩ [] rfl (Nat.le_of_ble_eq_true rfl) (zd tX12_punched 12 rfl) [zi r6] rfl (fun p7 => ?_)
  refine z_if_eq (tgt := 35) C p7.2 (zd tX12_punched 13 rfl) (by decide) h (fun h => ?_) (fun h => ?_)
  · refine z_iconst C (zd tX12_punched 19 rfl) ?_
    obtain ⟨rfl, rfl⟩ := zpi h
    exact ret.1 _ _ _ _ ⟨p7.1, (zR_c (-1) rfl)⟩ rfl rfl rfl (zd tX12_punched 20 rfl)
  · refine z_aload_n C (zd tX12_punched 14 rfl) rfl ?_
    refine gl_12_13 (t := 141) C (lg_137 ho) zic_12 (zm zwd_1003) (vl_12_13 ho p7.1 (lg_137 ho)) (zd tX12_punched 15 rfl) ?_
    refine z_iload_n C (zd tX12_punched 16 rfl) rfl ?_
    obtain ⟨q8, h⟩ := zck_some h
    refine za_iald C (lg_141 ho) rfl (by decide) q8 (zd tX12_punched 17 rfl) ?_
    refine z_goto (tgt := 36) C (zd tX12_punched 18 rfl) (by decide) ?_
    obtain ⟨rfl, rfl⟩ := zpi h
    exact ret.1 _ _ _ _ ⟨p7.1, (p7.1.1 _ _)⟩ rfl rfl rfl (zd tX12_punched 20 rfl)
set_option maxRecDepth 100000 in
set_option maxHeartbeats 4000000 in
theorem qX12_punched (l : Launch) (D : va_G) (ids : Nat → ClassId) (b : Nat) {x1 : Int} (Rx1 : zR x1) {x2 : Int} (Rx2 : zR x2) {x3 : Int} (Rx3 : zR x3) {v v' : zHp} {r' : Int} (hv : zV 137 24 v) (h : fX12_punched v x1 x2 x3 = some (v', r')) : zCT l yX12_punched vsX12_punched rmX12_punched D ids b 137 False 24 [zr 137, zi x1, zi x2, zi x3] v 24 (zV 137 24 v' ∧ zR r') (some (zi r')) v' 0 0 := by
  refine zMet (own := RX12) (by decide +kernel) (show vsX12_punched = _ from rfl) (Nat.le_of_ble_eq_true rfl) rfl ?_
  intro E hl hRm hD hids hb ho hz hN C hname ret
  subst hl hD hids hb
  unfold fX12_punched at h
  refine z_aload_n C (zd tX12_punched 0 rfl) rfl ?_
  refine z_iconst C (zd tX12_punched 1 rfl) ?_
  obtain ⟨v1, ev1, h⟩ := zb_some h
  have hv1 : zV 137 24 v1 := by rw [ev1]; exact hv.st (zR_c 0 rfl) (lg_137 ho).1 (Or.inr rfl)
  refine pf_12_0 C (lg_137 ho) zic_12 (zm zwd_990) ev1 (zd tX12_punched 2 rfl) ?_
  refine z_aload_n C (zd tX12_punched 3 rfl) rfl ?_
  refine z_iload_n C (zd tX12_punched 4 rfl) rfl ?_
  obtain ⟨v2, r3, cv2, h⟩ := zcl_some h
  refine zc_V C ho hz hRm (qX12_isWorker _ _ _ _ Rx1 hv1 cv2) (lg_137 ho) (by decide) rfl (zgV zwd_1211 zwd_1213 zws_52 zwd_13 zwd_1214) rfl pX12_isWorker rfl ⟨rfl, rfl⟩ ⟨Nat.le_of_ble_eq_true rfl, Nat.le_of_ble_eq_true rfl⟩ [] rfl (Nat.le_of_ble_eq_true rfl) (zd tX12_punched 5 rfl) [zi r3] rfl (fun p4 => ?_)
  refine z_if_eq (tgt := 18) C p4.2 (zd tX12_punched 6 rfl) (by decide) h (fun h => ?_) (fun h => ?_)
  · refine z_sub (lo' := [some (zr 137), some (zi x1), none, none]) (zsub_s (zsub_s (zsub_n (zsub_n zsub_0)))) ?_
    exact jX12_punched_J18 C hN ho hz hRm ret v2 x1 h p4.1 Rx1
  · refine z_iload_n C (zd tX12_punched 7 rfl) rfl ?_
    refine z_iconst C (zd tX12_punched 8 rfl) ?_
    refine z_icmp_ne (tgt := 37) C Rx2 (zR_c (-1) rfl) (zd tX12_punched 9 rfl) (by decide) h (fun h => ?_) (fun h => ?_)
    · refine z_iload_n C (zd tX12_punched 21 rfl) rfl ?_
      refine z_iconst C (zd tX12_punched 22 rfl) ?_
      refine z_aload_n C (zd tX12_punched 23 rfl) rfl ?_
      refine gl_12_13 (t := 141) C (lg_137 ho) zic_12 (zm zwd_1003) (vl_12_13 ho p4.1 (lg_137 ho)) (zd tX12_punched 24 rfl) ?_
      refine z_iload_n C (zd tX12_punched 25 rfl) rfl ?_
      obtain ⟨q9, h⟩ := zck_some h
      refine za_iald C (lg_141 ho) rfl (by decide) q9 (zd tX12_punched 26 rfl) ?_
      refine z_iconst C (zd tX12_punched 27 rfl) ?_
      refine z_isub C (zd tX12_punched 28 rfl) ?_
      obtain ⟨t10, et10, Rt10, h⟩ := zn_some h
      refine z_nk 0 (congrArg zI et10.symm) rfl ?_
      obtain ⟨v11, r12, cv11, h⟩ := zcl_some h
      refine zc_S C ho hz hRm (qX12_within _ _ _ _ Rx2 (zR_c 0 rfl) Rt10 p4.1 cv11) (zgS zwd_1109 zwd_1110 zwd_13 zwd_1111) rfl pX12_within rfl ⟨rfl, rfl⟩ ⟨Nat.le_of_ble_eq_true rfl, Nat.le_of_ble_eq_true rfl⟩ [] rfl (Nat.le_of_ble_eq_true rfl) (zd tX12_punched 29 rfl) [zi r12] rfl (fun p13 => ?_)
      refine z_if_eq (tgt := 62) C p13.2 (zd tX12_punched 30 rfl) (by decide) h (fun h => ?_) (fun h => ?_)
      · refine z_iconst C (zd tX12_punched 36 rfl) ?_
        obtain ⟨rfl, rfl⟩ := zpi h
        exact ret.1 _ _ _ _ ⟨p13.1, (zR_c (-1) rfl)⟩ rfl rfl rfl (zd tX12_punched 37 rfl)
      · refine z_iload_n C (zd tX12_punched 31 rfl) rfl ?_
        refine z_iconst C (zd tX12_punched 32 rfl) ?_
        refine z_iconst C (zd tX12_punched 33 rfl) ?_
        obtain ⟨v14, r15, cv14, h⟩ := zcl_some h
        refine zc_S C ho hz hRm (qX12_within _ _ _ _ Rx3 (zR_c 0 rfl) (zR_c 2 rfl) p13.1 cv14) (zgS zwd_1109 zwd_1110 zwd_13 zwd_1111) rfl pX12_within rfl ⟨rfl, rfl⟩ ⟨Nat.le_of_ble_eq_true rfl, Nat.le_of_ble_eq_true rfl⟩ [] rfl (Nat.le_of_ble_eq_true rfl) (zd tX12_punched 34 rfl) [zi r15] rfl (fun p16 => ?_)
        refine z_if_ne (tgt := 64) C p16.2 (zd tX12_punched 35 rfl) (by decide) h (fun h => ?_) (fun h => ?_)
        · refine z_aload_n C (zd tX12_punched 38 rfl) rfl ?_
          refine z_iload_n C (zd tX12_punched 39 rfl) rfl ?_
          obtain ⟨v17, r18, cv17, h⟩ := zcl_some h
          refine zc_V C ho hz hRm (qX12_laysPairs _ _ _ _ Rx1 p16.1 cv17) (lg_137 ho) (by decide) rfl (zgV zwd_1243 zwd_1245 zws_57 zwd_13 zwd_1246) rfl pX12_laysPairs rfl ⟨rfl, rfl⟩ ⟨Nat.le_of_ble_eq_true rfl, Nat.le_of_ble_eq_true rfl⟩ [] rfl (Nat.le_of_ble_eq_true rfl) (zd tX12_punched 40 rfl) [] rfl (fun p19 => ?_)
          refine z_iload_n C (zd tX12_punched 41 rfl) rfl ?_
          refine z_if_ne (tgt := 87) C Rx3 (zd tX12_punched 42 rfl) (by decide) h (fun h => ?_) (fun h => ?_)
          · refine z_iload_n C (zd tX12_punched 52 rfl) rfl ?_
            refine z_iconst C (zd tX12_punched 53 rfl) ?_
            refine z_icmp_ne (tgt := 106) C Rx3 (zR_c 1 rfl) (zd tX12_punched 54 rfl) (by decide) h (fun h => ?_) (fun h => ?_)
            · refine z_aload_n C (zd tX12_punched 64 rfl) rfl ?_
              refine gl_12_18 (t := 145) C (lg_137 ho) zic_12 (zm zwd_1008) (vl_12_18 ho p19 (lg_137 ho)) (zd tX12_punched 65 rfl) ?_
              refine z_iload_n C (zd tX12_punched 66 rfl) rfl ?_
              obtain ⟨q20, h⟩ := zck_some h
              refine za_iald C (lg_145 ho) rfl (by decide) q20 (zd tX12_punched 67 rfl) ?_
              obtain ⟨rfl, rfl⟩ := zpi h
              exact ret.1 _ _ _ _ ⟨p19, (p19.1 _ _)⟩ rfl rfl rfl (zd tX12_punched 68 rfl)
            · refine z_aload_n C (zd tX12_punched 55 rfl) rfl ?_
              refine gl_12_15 (t := 143) C (lg_137 ho) zic_12 (zm zwd_1005) (vl_12_15 ho p19 (lg_137 ho)) (zd tX12_punched 56 rfl) ?_
              refine z_bipush C (by decide) (zd tX12_punched 57 rfl) ?_
              refine z_iload_n C (zd tX12_punched 58 rfl) rfl ?_
              refine z_imul C (zd tX12_punched 59 rfl) ?_
              refine z_iload_n C (zd tX12_punched 60 rfl) rfl ?_
              refine z_iadd C (zd tX12_punched 61 rfl) ?_
              obtain ⟨q21, h⟩ := zck_some h
              refine za_iald C (lg_143 ho) rfl (by decide) q21 (zd tX12_punched 62 rfl) ?_
              refine z_goto (tgt := 112) C (zd tX12_punched 63 rfl) (by decide) ?_
              obtain ⟨rfl, rfl⟩ := zpi h
              exact ret.1 _ _ _ _ ⟨p19, (p19.1 _ _)⟩ rfl rfl rfl (zd tX12_punched 68 rfl)
          · refine z_aload_n C (zd tX12_punched 43 rfl) rfl ?_
            refine gl_12_14 (t := 142) C (lg_137 ho) zic_12 (zm zwd_1004) (vl_12_14 ho p19 (lg_137 ho)) (zd tX12_punched 44 rfl) ?_
            refine z_bipush C (by decide) (zd tX12_punched 45 rfl) ?_
            refine z_iload_n C (zd tX12_punched 46 rfl) rfl ?_
            refine z_imul C (zd tX12_punched 47 rfl) ?_
            refine z_iload_n C (zd tX12_punched 48 rfl) rfl ?_
            refine z_iadd C (zd tX12_punched 49 rfl) ?_
            obtain ⟨q22, h⟩ := zck_some h
            refine za_iald C (lg_142 ho) rfl (by decide) q22 (zd tX12_punched 50 rfl) ?_
            refine z_goto (tgt := 112) C (zd tX12_punched 51 rfl) (by decide) ?_
            obtain ⟨rfl, rfl⟩ := zpi h
            exact ret.1 _ _ _ _ ⟨p19, (p19.1 _ _)⟩ rfl rfl rfl (zd tX12_punched 68 rfl)
        · refine z_iconst C (zd tX12_punched 36 rfl) ?_
          obtain ⟨rfl, rfl⟩ := zpi h
          exact ret.1 _ _ _ _ ⟨p16.1, (zR_c (-1) rfl)⟩ rfl rfl rfl (zd tX12_punched 37 rfl)
    · refine z_sub (lo' := [some (zr 137), some (zi x1), none, none]) (zsub_s (zsub_s (zsub_n (zsub_n zsub_0)))) ?_
      exact jX12_punched_J18 C hN ho hz hRm ret v2 x1 h p4.1 Rx1
noncomputable def vsX12_quarter : List Cond := .code yX12_quarter cX12_quarter 7 (some .int) :: zbig
abbrev rmX12_quarter : Room := { frames := 6, cells := 0, slots := 0, locals := 139 }
theorem pX12_quarter : yX12_quarter.cls = RX12 ∧ yX12_quarter.cls ≠ "java/lang/invoke/MethodHandle" ∧ yX12_quarter.cls ≠ "java/lang/invoke/VarHandle" ∧ (parseMethodDescriptor yX12_quarter.desc).map (fun d => d.parameters.length) = some 3 := by decide +kernel
set_option maxRecDepth 100000 in
set_option maxHeartbeats 4000000 in
theorem bX12_quarter_L79 {E : zE} (C : zC E 24 cX12_quarter RX12 vsX12_quarter) (hN : zEN E = 7) (ho : zEo E = 137) (hz : zEz E = False) (hRm : zER E = rmX12_quarter) : ∀ (fu : Nat) (v : zHp) (x2 : Int) (x3 : Int) (x4 : Int) (res : (zHp × (Int))), fX12_quarter_L79 fu v x2 x3 x4 = some res → zV 137 24 v → zR x2 → zR x3 → zR x4 → (∀ (w : zHp) (q : Int), res = (w, q) → zV 137 24 w → zR q → zX E 0 0 24 w 96 [some (zr 137), none, some (zi x2), some (zi x3), some (zi q), none, none] []) → zX E 0 0 24 v 79 [some (zr 137), none, some (zi x2), some (zi x3), some (zi x4), none, none] [] := by
  intro fu
  induction fu with
  | zero =>
    intro v _ _ _ res h
    cases h
  | succ fu ih =>
    intro v x2 x3 x4 res h hv Rx2 Rx3 Rx4 K1
    rw [fX12_quarter_L79.eq_2] at h
    refine z_aload_n C (zd tX12_quarter 44 rfl) rfl ?_
    refine gl_12_24 (t := 149) C (lg_137 ho) zic_12 (zm zwd_1014) (vl_12_24 ho hv (lg_137 ho)) (zd tX12_quarter 45 rfl) ?_
    refine z_iload C (zd tX12_quarter 46 rfl) rfl ?_
    obtain ⟨q18, h⟩ := zck_some h
    refine za_iald C (lg_149 ho) rfl (by decide) q18 (zd tX12_quarter 47 rfl) ?_
    refine z_iload_n C (zd tX12_quarter 48 rfl) rfl ?_
    refine z_icmp_eq (tgt := 96) C (hv.1 _ _) Rx2 (zd tX12_quarter 49 rfl) (by decide) h (fun h => ?_) (fun h => ?_)
    · refine z_sub (lo' := [some (zr 137), none, some (zi x2), some (zi x3), some (zi x4), none, none]) (zsub_s (zsub_n (zsub_s (zsub_s (zsub_s (zsub_n (zsub_n zsub_0))))))) ?_
      exact K1 _ _ (Option.some.inj h).symm hv Rx4
    · obtain ⟨t19, et19, Rt19, h⟩ := zn_some h
      refine z_iincE C (zd tX12_quarter 50 rfl) (by rw [hN]; decide) rfl et19 ?_
      refine z_goto (tgt := 79) C (zd tX12_quarter 51 rfl) (by decide) ?_
      refine z_sub (lo' := [some (zr 137), none, some (zi x2), some (zi x3), some (zi t19), none, none]) (zsub_s (zsub_n (zsub_s (zsub_s (zsub_s (zsub_n (zsub_n zsub_0))))))) ?_
      exact ih v x2 x3 t19 _ h hv Rx2 Rx3 Rt19 K1
set_option maxRecDepth 100000 in
set_option maxHeartbeats 4000000 in
theorem bX12_quarter_L162 {E : zE} (C : zC E 24 cX12_quarter RX12 vsX12_quarter) (hN : zEN E = 7) (ho : zEo E = 137) (hz : zEz E = False) (hRm : zER E = rmX12_quarter) : ∀ (fu : Nat) (v : zHp) (x4 : Int) (x5 : Int) (x6 : Int) (res : (zHp × (Int))), fX12_quarter_L162 fu v x4 x5 x6 = some res → zV 137 24 v → zR x4 → zR x5 → zR x6 → (∀ (w : zHp) (q : Int), res = (w, q) → zV 137 24 w → zR q → zX E 0 0 24 w 208 [none, none, none, none, none, some (zi q), none] []) → zX E 0 0 24 v 162 [some (zr 137), none, none, none, some (zi x4), some (zi x5), some (zi x6)] [] := by
  intro fu
  induction fu with
  | zero =>
    intro v _ _ _ res h
    cases h
  | succ fu ih =>
    intro v x4 x5 x6 res h hv Rx4 Rx5 Rx6 K1
    rw [fX12_quarter_L162.eq_2] at h
    refine z_iload C (zd tX12_quarter 76 rfl) rfl ?_
    refine z_aload_n C (zd tX12_quarter 77 rfl) rfl ?_
    obtain ⟨v30, r31, cv30, h⟩ := zcl_some h
    refine zc_V C ho hz hRm (qX12_premiums _ _ _ _ hv cv30) (lg_137 ho) (by decide) rfl (zgV zwd_1173 zwd_1175 zws_46 zwd_13 zwd_1176) rfl pX12_premiums rfl ⟨rfl, rfl⟩ ⟨Nat.le_of_ble_eq_true rfl, Nat.le_of_ble_eq_true rfl⟩ [zi x6] rfl (Nat.le_of_ble_eq_true rfl) (zd tX12_quarter 78 rfl) [zi r31, zi x6] rfl (fun p32 => ?_)
    refine z_icmp_ge (tgt := 208) C Rx6 p32.2 (zd tX12_quarter 79 rfl) (by decide) h (fun h => ?_) (fun h => ?_)
    · refine z_sub (lo' := [none, none, none, none, none, some (zi x5), none]) (zsub_n (zsub_n (zsub_n (zsub_n (zsub_n (zsub_s (zsub_n zsub_0))))))) ?_
      exact K1 _ _ (Option.some.inj h).symm p32.1 Rx5
    · refine z_iload C (zd tX12_quarter 80 rfl) rfl ?_
      refine z_aload_n C (zd tX12_quarter 81 rfl) rfl ?_
      refine z_iload C (zd tX12_quarter 82 rfl) rfl ?_
      refine z_iload C (zd tX12_quarter 83 rfl) rfl ?_
      refine z_aload_n C (zd tX12_quarter 84 rfl) rfl ?_
      refine gl_12_28 (t := 153) C (lg_137 ho) zic_12 (zm zwd_1018) (vl_12_28 ho p32.1 (lg_137 ho)) (zd tX12_quarter 85 rfl) ?_
      refine z_iload C (zd tX12_quarter 86 rfl) rfl ?_
      obtain ⟨q33, h⟩ := zck_some h
      refine za_iald C (lg_153 ho) rfl (by decide) q33 (zd tX12_quarter 87 rfl) ?_
      obtain ⟨v34, r35, cv34, h⟩ := zcl_some h
      refine zc_V C ho hz hRm (qX12_canBe _ _ _ _ Rx4 Rx6 (p32.1.1 _ _) p32.1 cv34) (lg_137 ho) (by decide) rfl (zgV zwd_1315 zwd_1317 zws_73 zwd_13 zwd_1318) rfl pX12_canBe rfl ⟨rfl, rfl⟩ ⟨Nat.le_of_ble_eq_true rfl, Nat.le_of_ble_eq_true rfl⟩ [zi x5] rfl (Nat.le_of_ble_eq_true rfl) (zd tX12_quarter 88 rfl) [zi r35, zi x5] rfl (fun p36 => ?_)
      refine z_if_eq (tgt := 198) C p36.2 (zd tX12_quarter 89 rfl) (by decide) h (fun h => ?_) (fun h => ?_)
      · refine z_iconst C (zd tX12_quarter 94 rfl) ?_
        refine z_ior C (zd tX12_quarter 95 rfl) ?_
        refine z_istore C (zd tX12_quarter 96 rfl) (by rw [hN]; decide) ?_
        obtain ⟨t37, et37, Rt37, h⟩ := zn_some h
        refine z_iincE C (zd tX12_quarter 97 rfl) (by rw [hN]; decide) rfl et37 ?_
        refine z_goto (tgt := 162) C (zd tX12_quarter 98 rfl) (by decide) ?_
        refine z_sub (lo' := [some (zr 137), none, none, none, some (zi x4), some (zi (zor x5 0)), some (zi t37)]) (zsub_s (zsub_n (zsub_n (zsub_n (zsub_s (zsub_s (zsub_s zsub_0))))))) ?_
        exact ih v34 x4 (zor x5 0) t37 _ h p36.1 Rx4 (zR_or _ _) Rt37 K1
      · refine z_iconst C (zd tX12_quarter 90 rfl) ?_
        refine z_iload C (zd tX12_quarter 91 rfl) rfl ?_
        refine z_ishl C (zd tX12_quarter 92 rfl) ?_
        refine z_goto (tgt := 199) C (zd tX12_quarter 93 rfl) (by decide) ?_
        refine z_ior C (zd tX12_quarter 95 rfl) ?_
        refine z_istore C (zd tX12_quarter 96 rfl) (by rw [hN]; decide) ?_
        obtain ⟨t38, et38, Rt38, h⟩ := zn_some h
        refine z_iincE C (zd tX12_quarter 97 rfl) (by rw [hN]; decide) rfl et38 ?_
        refine z_goto (tgt := 162) C (zd tX12_quarter 98 rfl) (by decide) ?_
        refine z_sub (lo' := [some (zr 137), none, none, none, some (zi x4), some (zi (zor x5 (zshl 1 x6))), some (zi t38)]) (zsub_s (zsub_n (zsub_n (zsub_n (zsub_s (zsub_s (zsub_s zsub_0))))))) ?_
        exact ih v34 x4 (zor x5 (zshl 1 x6)) t38 _ h p36.1 Rx4 (zR_or _ _) Rt38 K1
set_option maxRecDepth 100000 in
set_option maxHeartbeats 4000000 in
theorem jX12_quarter_J23 {E : zE} (C : zC E 24 cX12_quarter RX12 vsX12_quarter) (hN : zEN E = 7) (ho : zEo E = 137) (hz : zEz E = False) (hRm : zER E = rmX12_quarter) {v' : zHp} {r' : Int} (ret : zRet E cX12_quarter 0 0 24 (some .int) (zV 137 24 v' ∧ zR r') (some (zi r')) v') (v : zHp) (x1 : Int) (x2 : Int) (x3 : Int) (s1 : Int) (h : fX12_quarter_J23 v x1 x2 x3 s1 = some (v', r')) (hv : zV 137 24 v) (Rx1 : zR x1) (Rx2 : zR x2) (Rx3 : zR x3) (Rs1 : zR s1) : zX E 0 0 24 v 23 [some (zr 137), some (zi x1), some (zi x2), some (zi x3), none, none, none] [zi s1, zr 137] := by
  unfold fX12_quarter_J23 at h
  obtain ⟨v4, ev4, h⟩ := zb_some h
  have hv4 : zV 137 24 v4 := by rw [ev4]; exact hv.st Rs1 (lg_137 ho).1 (Or.inr rfl)
  refine pf_12_0 C (lg_137 ho) zic_12 (zm zwd_990) ev4 (zd tX12_quarter 13 rfl) ?_
  refine z_aload_n C (zd tX12_quarter 14 rfl) rfl ?_
  refine gf_12_0 C (lg_137 ho) zic_12 (zm zwd_990) (zd tX12_quarter 15 rfl) ?_
  refine z_if_le (tgt := 35) C (hv4.1 _ _) (zd tX12_quarter 16 rfl) (by decide) h (fun h => ?_) (fun h => ?_)
  · refine z_aload_n C (zd tX12_quarter 19 rfl) rfl ?_
    refine z_iload_n C (zd tX12_quarter 20 rfl) rfl ?_
    obtain ⟨v5, r6, cv5, h⟩ := zcl_some h
    refine zc_V C ho hz hRm (qX12_laysWorked _ _ _ _ Rx1 hv4 cv5) (lg_137 ho) (by decide) rfl (zgV zwd_1267 zwd_1269 zws_61 zwd_13 zwd_1270) rfl pX12_laysWorked rfl ⟨rfl, rfl⟩ ⟨Nat.le_of_ble_eq_true rfl, Nat.le_of_ble_eq_true rfl⟩ [] rfl (Nat.le_of_ble_eq_true rfl) (zd tX12_quarter 21 rfl) [] rfl (fun p7 => ?_)
    refine z_iload_n C (zd tX12_quarter 22 rfl) rfl ?_
    refine z_iconst C (zd tX12_quarter 23 rfl) ?_
    refine z_sipush C (by decide) (zd tX12_quarter 24 rfl) ?_
    obtain ⟨v8, r9, cv8, h⟩ := zcl_some h
    refine zc_S C ho hz hRm (qX12_within _ _ _ _ Rx2 (zR_c 0 rfl) (zR_c 2719 rfl) p7 cv8) (zgS zwd_1109 zwd_1110 zwd_13 zwd_1111) rfl pX12_within rfl ⟨rfl, rfl⟩ ⟨Nat.le_of_ble_eq_true rfl, Nat.le_of_ble_eq_true rfl⟩ [] rfl (Nat.le_of_ble_eq_true rfl) (zd tX12_quarter 25 rfl) [zi r9] rfl (fun p10 => ?_)
    refine z_if_eq (tgt := 60) C p10.2 (zd tX12_quarter 26 rfl) (by decide) h (fun h => ?_) (fun h => ?_)
    · refine z_bipush C (by decide) (zd tX12_quarter 32 rfl) ?_
      obtain ⟨rfl, rfl⟩ := zpi h
      exact ret.1 _ _ _ _ ⟨p10.1, (zR_c (-2) rfl)⟩ rfl rfl rfl (zd tX12_quarter 33 rfl)
    · refine z_aload_n C (zd tX12_quarter 27 rfl) rfl ?_
      refine gl_12_22 (t := 148) C (lg_137 ho) zic_12 (zm zwd_1012) (vl_12_22 ho p10.1 (lg_137 ho)) (zd tX12_quarter 28 rfl) ?_
      refine z_iload_n C (zd tX12_quarter 29 rfl) rfl ?_
      obtain ⟨q11, h⟩ := zck_some h
      refine za_zald C (lg_148 ho) rfl (by decide) q11 (zd tX12_quarter 30 rfl) ?_
      refine z_if_ne (tgt := 63) C (p10.1.1 _ _) (zd tX12_quarter 31 rfl) (by decide) h (fun h => ?_) (fun h => ?_)
      · refine z_aload_n C (zd tX12_quarter 34 rfl) rfl ?_
        refine z_iload_n C (zd tX12_quarter 35 rfl) rfl ?_
        refine z_aload_n C (zd tX12_quarter 36 rfl) rfl ?_
        refine z_iload_n C (zd tX12_quarter 37 rfl) rfl ?_
        obtain ⟨v12, r13, cv12, h⟩ := zcl_some h
        refine zc_V C ho hz hRm (qX12_dayOf _ _ _ _ Rx2 p10.1 cv12) (lg_137 ho) (by decide) rfl (zgV zwd_1271 zwd_1273 zws_62 zwd_13 zwd_1274) rfl pX12_dayOf rfl ⟨rfl, rfl⟩ ⟨Nat.le_of_ble_eq_true rfl, Nat.le_of_ble_eq_true rfl⟩ [zi x1, zr 137] rfl (Nat.le_of_ble_eq_true rfl) (zd tX12_quarter 38 rfl) [zi r13, zi x1, zr 137] rfl (fun p14 => ?_)
        refine z_bipush C (by decide) (zd tX12_quarter 39 rfl) ?_
        refine z_idiv C p14.2 (by decide) (zR_c 7 rfl) (zd tX12_quarter 40 rfl) ?_
        obtain ⟨v15, r16, cv15, h⟩ := zcl_some h
        refine zc_V C ho hz hRm (qX12_laysWeek _ _ _ _ Rx1 (zR_div p14.2 (by decide)) p14.1 cv15) (lg_137 ho) (by decide) rfl (zgV zwd_1275 zwd_1277 zws_63 zwd_13 zwd_1278) rfl pX12_laysWeek rfl ⟨rfl, rfl⟩ ⟨Nat.le_of_ble_eq_true rfl, Nat.le_of_ble_eq_true rfl⟩ [] rfl (Nat.le_of_ble_eq_true rfl) (zd tX12_quarter 41 rfl) [] rfl (fun p17 => ?_)
        refine z_iconst C (zd tX12_quarter 42 rfl) ?_
        refine z_istore C (zd tX12_quarter 43 rfl) (by rw [hN]; decide) ?_
        refine z_sub (lo' := [some (zr 137), none, some (zi x2), some (zi x3), some (zi 0), none, none]) (zsub_s (zsub_n (zsub_s (zsub_s (zsub_s (zsub_n (zsub_n zsub_0))))))) ?_
        obtain ⟨v20, w21, lv20, h⟩ := zl_some h
        refine bX12_quarter_L79 C hN ho hz hRm zFU v15 x2 x3 0 _ lv20 p17 Rx2 Rx3 (zR_c 0 rfl) (fun w1 q1 e1 hv20 Rw21 => ?_)
        obtain ⟨rfl, rfl⟩ := zpp e1
        refine z_iload_n C (zd tX12_quarter 52 rfl) rfl ?_
        by_cases c97_0 : x3 = 0
        · rw [if_pos c97_0] at h
          refine z_tblIn (tgt := 128) C Rx3 c97_0 (zd tX12_quarter 53 rfl) (by decide) (by decide) rfl (by decide) ?_
          refine z_aload_n C (zd tX12_quarter 54 rfl) rfl ?_
          refine z_iload_n C (zd tX12_quarter 55 rfl) rfl ?_
          obtain ⟨v22, r23, cv22, h⟩ := zcl_some h
          refine zc_V C ho hz hRm (qX12_dayOf _ _ _ _ Rx2 hv20 cv22) (lg_137 ho) (by decide) rfl (zgV zwd_1271 zwd_1273 zws_62 zwd_13 zwd_1274) rfl pX12_dayOf rfl ⟨rfl, rfl⟩ ⟨Nat.le_of_ble_eq_true rfl, Nat.le_of_ble_eq_true rfl⟩ [] rfl (Nat.le_of_ble_eq_true rfl) (zd tX12_quarter 56 rfl) [zi r23] rfl (fun p24 => ?_)
          obtain ⟨rfl, rfl⟩ := zpi h
          exact ret.1 _ _ _ _ ⟨p24.1, p24.2⟩ rfl rfl rfl (zd tX12_quarter 57 rfl)
        rw [if_neg c97_0] at h
        by_cases c97_1 : x3 = 1
        · rw [if_pos c97_1] at h
          refine z_tblIn (tgt := 134) C Rx3 c97_1 (zd tX12_quarter 53 rfl) (by decide) (by decide) rfl (by decide) ?_
          refine z_aload_n C (zd tX12_quarter 58 rfl) rfl ?_
          refine z_iload_n C (zd tX12_quarter 59 rfl) rfl ?_
          obtain ⟨v25, r26, cv25, h⟩ := zcl_some h
          refine zc_V C ho hz hRm (qX12_hourOf _ _ _ _ Rx2 hv20 cv25) (lg_137 ho) (by decide) rfl (zgV zwd_1287 zwd_1289 zws_66 zwd_13 zwd_1290) rfl pX12_hourOf rfl ⟨rfl, rfl⟩ ⟨Nat.le_of_ble_eq_true rfl, Nat.le_of_ble_eq_true rfl⟩ [] rfl (Nat.le_of_ble_eq_true rfl) (zd tX12_quarter 60 rfl) [zi r26] rfl (fun p27 => ?_)
          obtain ⟨rfl, rfl⟩ := zpi h
          exact ret.1 _ _ _ _ ⟨p27.1, p27.2⟩ rfl rfl rfl (zd tX12_quarter 61 rfl)
        rw [if_neg c97_1] at h
        by_cases c97_2 : x3 = 2
        · rw [if_pos c97_2] at h
          refine z_tblIn (tgt := 140) C Rx3 c97_2 (zd tX12_quarter 53 rfl) (by decide) (by decide) rfl (by decide) ?_
          refine z_aload_n C (zd tX12_quarter 62 rfl) rfl ?_
          refine gl_12_26 (t := 151) C (lg_137 ho) zic_12 (zm zwd_1016) (vl_12_26 ho hv20 (lg_137 ho)) (zd tX12_quarter 63 rfl) ?_
          refine z_iload C (zd tX12_quarter 64 rfl) rfl ?_
          obtain ⟨q28, h⟩ := zck_some h
          refine za_iald C (lg_151 ho) rfl (by decide) q28 (zd tX12_quarter 65 rfl) ?_
          obtain ⟨rfl, rfl⟩ := zpi h
          exact ret.1 _ _ _ _ ⟨hv20, (hv20.1 _ _)⟩ rfl rfl rfl (zd tX12_quarter 66 rfl)
        rw [if_neg c97_2] at h
        by_cases c97_3 : x3 = 3
        · rw [if_pos c97_3] at h
          refine z_tblIn (tgt := 148) C Rx3 c97_3 (zd tX12_quarter 53 rfl) (by decide) (by decide) rfl (by decide) ?_
          refine z_aload_n C (zd tX12_quarter 67 rfl) rfl ?_
          refine gl_12_27 (t := 152) C (lg_137 ho) zic_12 (zm zwd_1017) (vl_12_27 ho hv20 (lg_137 ho)) (zd tX12_quarter 68 rfl) ?_
          refine z_iload C (zd tX12_quarter 69 rfl) rfl ?_
          obtain ⟨q29, h⟩ := zck_some h
          refine za_iald C (lg_152 ho) rfl (by decide) q29 (zd tX12_quarter 70 rfl) ?_
          obtain ⟨rfl, rfl⟩ := zpi h
          exact ret.1 _ _ _ _ ⟨hv20, (hv20.1 _ _)⟩ rfl rfl rfl (zd tX12_quarter 71 rfl)
        rw [if_neg c97_3] at h
        refine z_tblOut (tgt := 156) C Rx3 (by omega) (zd tX12_quarter 53 rfl) (by decide) ?_
        refine z_iconst C (zd tX12_quarter 72 rfl) ?_
        refine z_istore C (zd tX12_quarter 73 rfl) (by rw [hN]; decide) ?_
        refine z_iconst C (zd tX12_quarter 74 rfl) ?_
        refine z_istore C (zd tX12_quarter 75 rfl) (by rw [hN]; decide) ?_
        refine z_sub (lo' := [some (zr 137), none, none, none, some (zi w21), some (zi 0), some (zi 0)]) (zsub_s (zsub_n (zsub_n (zsub_n (zsub_s (zsub_s (zsub_s zsub_0))))))) ?_
        obtain ⟨v39, w40, lv39, h⟩ := zl_some h
        refine bX12_quarter_L162 C hN ho hz hRm zFU v20 w21 0 0 _ lv39 hv20 Rw21 (zR_c 0 rfl) (zR_c 0 rfl) (fun w1 q1 e1 hv39 Rw40 => ?_)
        obtain ⟨rfl, rfl⟩ := zpp e1
        refine z_iload C (zd tX12_quarter 99 rfl) rfl ?_
        obtain ⟨rfl, rfl⟩ := zpi h
        exact ret.1 _ _ _ _ ⟨hv39, Rw40⟩ rfl rfl rfl (zd tX12_quarter 100 rfl)
      · refine z_bipush C (by decide) (zd tX12_quarter 32 rfl) ?_
        obtain ⟨rfl, rfl⟩ := zpi h
        exact ret.1 _ _ _ _ ⟨p10.1, (zR_c (-2) rfl)⟩ rfl rfl rfl (zd tX12_quarter 33 rfl)
  · refine z_iconst C (zd tX12_quarter 17 rfl) ?_
    obtain ⟨rfl, rfl⟩ := zpi h
    exact ret.1 _ _ _ _ ⟨hv4, (zR_c 0 rfl)⟩ rfl rfl rfl (zd tX12_quarter 18 rfl)
set_option maxRecDepth 100000 in
set_option maxHeartbeats 4000000 in
theorem jX12_quarter_J22 {E : zE} (C : zC E 24 cX12_quarter RX12 vsX12_quarter) (hN : zEN E = 7) (ho : zEo E = 137) (hz : zEz E = False) (hRm : zER E = rmX12_quarter) {v' : zHp} {r' : Int} (ret : zRet E cX12_quarter 0 0 24 (some .int) (zV 137 24 v' ∧ zR r') (some (zi r')) v') (v : zHp) (x1 : Int) (x2 : Int) (x3 : Int) (h : fX12_quarter_J22 v x1 x2 x3 = some (v', r')) (hv : zV 137 24 v) (Rx1 : zR x1) (Rx2 : zR x2) (Rx3 : zR x3) : zX E 0 0 24 v 22 [some (zr 137), some (zi x1), some (zi x2), some (zi x3), none, none, none] [zr 137] := by
  unfold fX12_quarter_J22 at h
  refine z_iconst C (zd tX12_quarter 12 rfl) ?_
  refine z_sub (lo' := [some (zr 137), some (zi x1), some (zi x2), some (zi x3), none, none, none]) (zsub_s (zsub_s (zsub_s (zsub_s (zsub_n (zsub_n (zsub_n zsub_0))))))) ?_
  exact jX12_quarter_J23 C hN ho hz hRm ret v x1 x2 x3 1 h hv Rx1 Rx2 Rx3 (zR_c 1 rfl)
set_option maxRecDepth 100000 in
set_option maxHeartbeats 4000000 in
theorem qX12_quarter (l : Launch) (D : va_G) (ids : Nat → ClassId) (b : Nat) {x1 : Int} (Rx1 : zR x1) {x2 : Int} (Rx2 : zR x2) {x3 : Int} (Rx3 : zR x3) {v v' : zHp} {r' : Int} (hv : zV 137 24 v) (h : fX12_quarter v x1 x2 x3 = some (v', r')) : zCT l yX12_quarter vsX12_quarter rmX12_quarter D ids b 137 False 24 [zr 137, zi x1, zi x2, zi x3] v 24 (zV 137 24 v' ∧ zR r') (some (zi r')) v' 0 0 := by
  refine zMet (own := RX12) (by decide +kernel) (show vsX12_quarter = _ from rfl) (Nat.le_of_ble_eq_true rfl) rfl ?_
  intro E hl hRm hD hids hb ho hz hN C hname ret
  subst hl hD hids hb
  unfold fX12_quarter at h
  refine z_aload_n C (zd tX12_quarter 0 rfl) rfl ?_
  refine z_aload_n C (zd tX12_quarter 1 rfl) rfl ?_
  refine z_iload_n C (zd tX12_quarter 2 rfl) rfl ?_
  obtain ⟨v1, r2, cv1, h⟩ := zcl_some h
  refine zc_V C ho hz hRm (qX12_isWorker _ _ _ _ Rx1 hv cv1) (lg_137 ho) (by decide) rfl (zgV zwd_1211 zwd_1213 zws_52 zwd_13 zwd_1214) rfl pX12_isWorker rfl ⟨rfl, rfl⟩ ⟨Nat.le_of_ble_eq_true rfl, Nat.le_of_ble_eq_true rfl⟩ [zr 137] rfl (Nat.le_of_ble_eq_true rfl) (zd tX12_quarter 3 rfl) [zi r2, zr 137] rfl (fun p3 => ?_)
  refine z_if_eq (tgt := 22) C p3.2 (zd tX12_quarter 4 rfl) (by decide) h (fun h => ?_) (fun h => ?_)
  · refine z_sub (lo' := [some (zr 137), some (zi x1), some (zi x2), some (zi x3), none, none, none]) (zsub_s (zsub_s (zsub_s (zsub_s (zsub_n (zsub_n (zsub_n zsub_0))))))) ?_
    exact jX12_quarter_J22 C hN ho hz hRm ret v1 x1 x2 x3 h p3.1 Rx1 Rx2 Rx3
  · refine z_iload_n C (zd tX12_quarter 5 rfl) rfl ?_
    refine z_iconst C (zd tX12_quarter 6 rfl) ?_
    refine z_iconst C (zd tX12_quarter 7 rfl) ?_
    obtain ⟨v41, r42, cv41, h⟩ := zcl_some h
    refine zc_S C ho hz hRm (qX12_within _ _ _ _ Rx3 (zR_c 0 rfl) (zR_c 4 rfl) p3.1 cv41) (zgS zwd_1109 zwd_1110 zwd_13 zwd_1111) rfl pX12_within rfl ⟨rfl, rfl⟩ ⟨Nat.le_of_ble_eq_true rfl, Nat.le_of_ble_eq_true rfl⟩ [zr 137] rfl (Nat.le_of_ble_eq_true rfl) (zd tX12_quarter 8 rfl) [zi r42, zr 137] rfl (fun p43 => ?_)
    refine z_if_eq (tgt := 22) C p43.2 (zd tX12_quarter 9 rfl) (by decide) h (fun h => ?_) (fun h => ?_)
    · refine z_sub (lo' := [some (zr 137), some (zi x1), some (zi x2), some (zi x3), none, none, none]) (zsub_s (zsub_s (zsub_s (zsub_s (zsub_n (zsub_n (zsub_n zsub_0))))))) ?_
      exact jX12_quarter_J22 C hN ho hz hRm ret v41 x1 x2 x3 h p43.1 Rx1 Rx2 Rx3
    · refine z_iconst C (zd tX12_quarter 10 rfl) ?_
      refine z_goto (tgt := 23) C (zd tX12_quarter 11 rfl) (by decide) ?_
      refine z_sub (lo' := [some (zr 137), some (zi x1), some (zi x2), some (zi x3), none, none, none]) (zsub_s (zsub_s (zsub_s (zsub_s (zsub_n (zsub_n (zsub_n zsub_0))))))) ?_
      exact jX12_quarter_J23 C hN ho hz hRm ret v41 x1 x2 x3 0 h p43.1 Rx1 Rx2 Rx3 (zR_c 0 rfl)
noncomputable def vsX12_rules : List Cond := .code yX12_rules cX12_rules 5 (some .int) :: zbig
abbrev rmX12_rules : Room := { frames := 5, cells := 260, slots := 2080, locals := 115 }
theorem pX12_rules : yX12_rules.cls = RX12 ∧ yX12_rules.cls ≠ "java/lang/invoke/MethodHandle" ∧ yX12_rules.cls ≠ "java/lang/invoke/VarHandle" ∧ (parseMethodDescriptor yX12_rules.desc).map (fun d => d.parameters.length) = some 1 := by decide +kernel
set_option maxRecDepth 100000 in
set_option maxHeartbeats 4000000 in
theorem jX12_rules_J83 {E : zE} {k n : Nat} (C : zC E 24 cX12_rules RX12 vsX12_rules) (hN : zEN E = 5) (ho : zEo E = 137) (hz : zEz E = False) (hRm : zER E = rmX12_rules) (rc : zHp → Int → Option (zHp × (Int))) (res : (zHp × (Int))) (v : zHp) (x2 : Int) (K1 : ∀ (w : zHp) (q : Int), res = (w, q) → zV 137 24 w → zR q → zX E 260 2080 24 w 94 [some (zr 137), none, some (zi q), none, none] []) (hk : k ≤ 260 ∧ n ≤ 2080) (h : fX12_rules_J83 rc v x2 = some res) (hv : zV 137 24 v) (Rx2 : zR x2) (hrc : ∀ (v : zHp) (z2 : Int), rc v z2 = some res → zV 137 24 v → zR z2 → zX E k n 24 v 49 [some (zr 137), none, some (zi z2), none, none] []): zX E k n 24 v 83 [some (zr 137), none, some (zi x2), none, none] [] := by
  unfold fX12_rules_J83 at h
  refine z_iload_n C (zd tX12_rules 47 rfl) rfl ?_
  refine z_if_eq (tgt := 49) C Rx2 (zd tX12_rules 48 rfl) (by decide) h (fun h => ?_) (fun h => ?_)
  · refine z_sub (lo' := [some (zr 137), none, some (zi x2), none, none]) (zsub_s (zsub_n (zsub_s (zsub_n (zsub_n zsub_0))))) ?_
    exact hrc v x2 h hv Rx2
  · refine z_aload_n C (zd tX12_rules 49 rfl) rfl ?_
    obtain ⟨v18, r19, cv18, h⟩ := zcl_some h
    refine zc_VA C ho hz hRm (qX12_go _ _ _ _ hv cv18) (lg_137 ho) (by decide) rfl (zgV zwd_1112 zwd_1114 zws_33 zwd_13 zwd_1115) rfl pX12_go rfl ⟨rfl, rfl⟩ ⟨Nat.le_of_ble_eq_true rfl, Nat.le_of_ble_eq_true rfl⟩ (k' := k + 0) (n' := n + 0) ⟨rfl, rfl⟩ ⟨by show k + 0 ≤ 260; omega, by show n + 0 ≤ 2080; omega⟩ [] rfl (Nat.le_of_ble_eq_true rfl) (zd tX12_rules 50 rfl) [] rfl (fun p20 => ?_)
    refine z_goto (tgt := 49) C (zd tX12_rules 51 rfl) (by decide) ?_
    refine z_sub (lo' := [some (zr 137), none, some (zi x2), none, none]) (zsub_s (zsub_n (zsub_s (zsub_n (zsub_n zsub_0))))) ?_
    exact hrc v18 x2 h p20 Rx2
set_option maxRecDepth 100000 in
set_option maxHeartbeats 4000000 in
theorem bX12_rules_L49 {E : zE} (C : zC E 24 cX12_rules RX12 vsX12_rules) (hN : zEN E = 5) (ho : zEo E = 137) (hz : zEz E = False) (hRm : zER E = rmX12_rules) : ∀ (fu : Nat) (v : zHp) (x2 : Int) (res : (zHp × (Int))) (k n : Nat), fX12_rules_L49 fu v x2 = some res → (k + 13 * fu ≤ 260 ∧ n + 104 * fu ≤ 2080) → zV 137 24 v → zR x2 → (∀ (w : zHp) (q : Int), res = (w, q) → zV 137 24 w → zR q → zX E 260 2080 24 w 94 [some (zr 137), none, some (zi q), none, none] []) → zX E k n 24 v 49 [some (zr 137), none, some (zi x2), none, none] [] := by
  intro fu
  induction fu with
  | zero =>
    intro v _ res k n h
    cases h
  | succ fu ih =>
    intro v x2 res k n h hk hv Rx2 K1
    rw [fX12_rules_L49.eq_2] at h
    refine z_iload_n C (zd tX12_rules 29 rfl) rfl ?_
    refine z_if_eq (tgt := 94) C Rx2 (zd tX12_rules 30 rfl) (by decide) h (fun h => ?_) (fun h => ?_)
    · refine z_sub (lo' := [some (zr 137), none, some (zi x2), none, none]) (zsub_s (zsub_n (zsub_s (zsub_n (zsub_n zsub_0))))) ?_
      refine z_widen (k' := 260) (n' := 2080) (by omega) (by omega) ?_
      exact K1 _ _ (Option.some.inj h).symm hv Rx2
    · refine z_aload_n C (zd tX12_rules 31 rfl) rfl ?_
      refine gf_12_6 C (lg_137 ho) zic_12 (zm zwd_996) (zd tX12_rules 32 rfl) ?_
      refine z_if_eq (tgt := 94) C (hv.1 _ _) (zd tX12_rules 33 rfl) (by decide) h (fun h => ?_) (fun h => ?_)
      · refine z_sub (lo' := [some (zr 137), none, some (zi x2), none, none]) (zsub_s (zsub_n (zsub_s (zsub_n (zsub_n zsub_0))))) ?_
        refine z_widen (k' := 260) (n' := 2080) (by omega) (by omega) ?_
        exact K1 _ _ (Option.some.inj h).symm hv Rx2
      · refine z_aload_n C (zd tX12_rules 34 rfl) rfl ?_
        obtain ⟨v15, r16, cv15, h⟩ := zcl_some h
        refine zc_VA C ho hz hRm (qX12_line _ _ _ _ hv cv15) (lg_137 ho) (by decide) rfl (zgV zwd_1121 zwd_1123 zws_35 zwd_13 zwd_1124) rfl pX12_line rfl ⟨rfl, rfl⟩ ⟨Nat.le_of_ble_eq_true rfl, Nat.le_of_ble_eq_true rfl⟩ (k' := k + 13) (n' := n + 104) ⟨rfl, rfl⟩ ⟨by show k + 13 ≤ 260; omega, by show n + 104 ≤ 2080; omega⟩ [] rfl (Nat.le_of_ble_eq_true rfl) (zd tX12_rules 35 rfl) [zi r16] rfl (fun p17 => ?_)
        refine z_istore_n C (zd tX12_rules 36 rfl) (by rw [hN]; decide) ?_
        refine z_iload_n C (zd tX12_rules 37 rfl) rfl ?_
        refine z_if_eq (tgt := 83) C p17.2 (zd tX12_rules 38 rfl) (by decide) h (fun h => ?_) (fun h => ?_)
        · refine z_sub (lo' := [some (zr 137), none, some (zi r16), none, none]) (zsub_s (zsub_n (zsub_s (zsub_n (zsub_n zsub_0))))) ?_
          exact jX12_rules_J83 C hN ho hz hRm _ _ v15 r16 K1 (by omega) h p17.1 p17.2 (fun w z2 hw hvw y2 => ih w z2 _ _ _ hw (by omega) hvw y2 K1)
        · refine z_aload_n C (zd tX12_rules 39 rfl) rfl ?_
          refine gf_12_6 C (lg_137 ho) zic_12 (zm zwd_996) (zd tX12_rules 40 rfl) ?_
          refine z_iconst C (zd tX12_rules 41 rfl) ?_
          refine z_icmp_eq (tgt := 83) C (p17.1.1 _ _) (zR_c 3 rfl) (zd tX12_rules 42 rfl) (by decide) h (fun h => ?_) (fun h => ?_)
          · refine z_sub (lo' := [some (zr 137), none, some (zi r16), none, none]) (zsub_s (zsub_n (zsub_s (zsub_n (zsub_n zsub_0))))) ?_
            exact jX12_rules_J83 C hN ho hz hRm _ _ v15 r16 K1 (by omega) h p17.1 p17.2 (fun w z2 hw hvw y2 => ih w z2 _ _ _ hw (by omega) hvw y2 K1)
          · refine z_aload_n C (zd tX12_rules 43 rfl) rfl ?_
            refine z_iconst C (zd tX12_rules 44 rfl) ?_
            obtain ⟨v21, r22, cv21, h⟩ := zcl_some h
            refine zc_VA C ho hz hRm (qX12_bad _ _ _ _ (zR_c 1 rfl) p17.1 cv21) (lg_137 ho) (by decide) rfl (zgV zwd_1137 zwd_1139 zws_39 zwd_13 zwd_1140) rfl pX12_bad rfl ⟨rfl, rfl⟩ ⟨Nat.le_of_ble_eq_true rfl, Nat.le_of_ble_eq_true rfl⟩ (k' := k + 13) (n' := n + 104) ⟨rfl, rfl⟩ ⟨by show k + 13 ≤ 260; omega, by show n + 104 ≤ 2080; omega⟩ [] rfl (Nat.le_of_ble_eq_true rfl) (zd tX12_rules 45 rfl) [zi r22] rfl (fun p23 => ?_)
            refine z_istore_n C (zd tX12_rules 46 rfl) (by rw [hN]; decide) ?_
            refine z_sub (lo' := [some (zr 137), none, some (zi r22), none, none]) (zsub_s (zsub_n (zsub_s (zsub_n (zsub_n zsub_0))))) ?_
            exact jX12_rules_J83 C hN ho hz hRm _ _ v21 r22 K1 (by omega) h p23.1 p23.2 (fun w z2 hw hvw y2 => ih w z2 _ _ _ hw (by omega) hvw y2 K1)
set_option maxRecDepth 100000 in
set_option maxHeartbeats 4000000 in
theorem bX12_rules_L111 {E : zE} (C : zC E 24 cX12_rules RX12 vsX12_rules) (hN : zEN E = 5) (ho : zEo E = 137) (hz : zEz E = False) (hRm : zER E = rmX12_rules) : ∀ (fu : Nat) (v : zHp) (x3 : Int) (x4 : Int) (res : (zHp × (Int))), fX12_rules_L111 fu v x3 x4 = some res → zV 137 24 v → zR x3 → zR x4 → (∀ (w : zHp) (q : Int), res = (w, q) → zV 137 24 w → zR q → zX E 260 2080 24 w 151 [some (zr 137), none, none, some (zi q), none] []) → zX E 260 2080 24 v 111 [some (zr 137), none, none, some (zi x3), some (zi x4)] [] := by
  intro fu
  induction fu with
  | zero =>
    intro v _ _ res h
    cases h
  | succ fu ih =>
    intro v x3 x4 res h hv Rx3 Rx4 K1
    rw [fX12_rules_L111.eq_2] at h
    refine z_iload C (zd tX12_rules 63 rfl) rfl ?_
    refine z_bipush C (by decide) (zd tX12_rules 64 rfl) ?_
    refine z_icmp_ge (tgt := 151) C Rx4 (zR_c 8 rfl) (zd tX12_rules 65 rfl) (by decide) h (fun h => ?_) (fun h => ?_)
    · refine z_sub (lo' := [some (zr 137), none, none, some (zi x3), none]) (zsub_s (zsub_n (zsub_n (zsub_s (zsub_n zsub_0))))) ?_
      exact K1 _ _ (Option.some.inj h).symm hv Rx3
    · refine z_iload_n C (zd tX12_rules 66 rfl) rfl ?_
      refine z_if_eq (tgt := 143) C Rx3 (zd tX12_rules 67 rfl) (by decide) h (fun h => ?_) (fun h => ?_)
      · refine z_iconst C (zd tX12_rules 79 rfl) ?_
        refine z_istore_n C (zd tX12_rules 80 rfl) (by rw [hN]; decide) ?_
        obtain ⟨t26, et26, Rt26, h⟩ := zn_some h
        refine z_iincE C (zd tX12_rules 81 rfl) (by rw [hN]; decide) rfl et26 ?_
        refine z_goto (tgt := 111) C (zd tX12_rules 82 rfl) (by decide) ?_
        refine z_sub (lo' := [some (zr 137), none, none, some (zi 0), some (zi t26)]) (zsub_s (zsub_n (zsub_n (zsub_s (zsub_s zsub_0))))) ?_
        exact ih v 0 t26 _ h hv (zR_c 0 rfl) Rt26 K1
      · refine z_aload_n C (zd tX12_rules 68 rfl) rfl ?_
        refine gl_12_10 (t := 139) C (lg_137 ho) zic_12 (zm zwd_1000) (vl_12_10 ho hv (lg_137 ho)) (zd tX12_rules 69 rfl) ?_
        refine z_iload C (zd tX12_rules 70 rfl) rfl ?_
        obtain ⟨q27, h⟩ := zck_some h
        refine za_iald C (lg_139 ho) rfl (by decide) q27 (zd tX12_rules 71 rfl) ?_
        refine z_aload_n C (zd tX12_rules 72 rfl) rfl ?_
        refine gl_12_11 (t := 140) C (lg_137 ho) zic_12 (zm zwd_1001) (vl_12_11 ho hv (lg_137 ho)) (zd tX12_rules 73 rfl) ?_
        refine z_iload C (zd tX12_rules 74 rfl) rfl ?_
        obtain ⟨q28, h⟩ := zck_some h
        refine za_iald C (lg_140 ho) rfl (by decide) q28 (zd tX12_rules 75 rfl) ?_
        refine z_icmp_ne (tgt := 143) C (hv.1 _ _) (hv.1 _ _) (zd tX12_rules 76 rfl) (by decide) h (fun h => ?_) (fun h => ?_)
        · refine z_iconst C (zd tX12_rules 79 rfl) ?_
          refine z_istore_n C (zd tX12_rules 80 rfl) (by rw [hN]; decide) ?_
          obtain ⟨t29, et29, Rt29, h⟩ := zn_some h
          refine z_iincE C (zd tX12_rules 81 rfl) (by rw [hN]; decide) rfl et29 ?_
          refine z_goto (tgt := 111) C (zd tX12_rules 82 rfl) (by decide) ?_
          refine z_sub (lo' := [some (zr 137), none, none, some (zi 0), some (zi t29)]) (zsub_s (zsub_n (zsub_n (zsub_s (zsub_s zsub_0))))) ?_
          exact ih v 0 t29 _ h hv (zR_c 0 rfl) Rt29 K1
        · refine z_iconst C (zd tX12_rules 77 rfl) ?_
          refine z_goto (tgt := 144) C (zd tX12_rules 78 rfl) (by decide) ?_
          refine z_istore_n C (zd tX12_rules 80 rfl) (by rw [hN]; decide) ?_
          obtain ⟨t30, et30, Rt30, h⟩ := zn_some h
          refine z_iincE C (zd tX12_rules 81 rfl) (by rw [hN]; decide) rfl et30 ?_
          refine z_goto (tgt := 111) C (zd tX12_rules 82 rfl) (by decide) ?_
          refine z_sub (lo' := [some (zr 137), none, none, some (zi 1), some (zi t30)]) (zsub_s (zsub_n (zsub_n (zsub_s (zsub_s zsub_0))))) ?_
          exact ih v 1 t30 _ h hv (zR_c 1 rfl) Rt30 K1
set_option maxRecDepth 100000 in
set_option maxHeartbeats 4000000 in
theorem bX12_rules_L158 {E : zE} (C : zC E 24 cX12_rules RX12 vsX12_rules) (hN : zEN E = 5) (ho : zEo E = 137) (hz : zEz E = False) (hRm : zER E = rmX12_rules) : ∀ (fu : Nat) (v : zHp) (x3 : Int) (x4 : Int) (res : (zHp × (Int))), fX12_rules_L158 fu v x3 x4 = some res → zV 137 24 v → zR x3 → zR x4 → (∀ (w : zHp) (q : Int), res = (w, q) → zV 137 24 w → True → zX E 260 2080 24 w 182 [some (zr 137), none, none, none, none] []) → zX E 260 2080 24 v 158 [some (zr 137), none, none, some (zi x3), some (zi x4)] [] := by
  intro fu
  induction fu with
  | zero =>
    intro v _ _ res h
    cases h
  | succ fu ih =>
    intro v x3 x4 res h hv Rx3 Rx4 K1
    rw [fX12_rules_L158.eq_2] at h
    refine z_iload C (zd tX12_rules 87 rfl) rfl ?_
    refine z_iconst C (zd tX12_rules 88 rfl) ?_
    refine z_icmp_ge (tgt := 182) C Rx4 (zR_c 4 rfl) (zd tX12_rules 89 rfl) (by decide) h (fun h => ?_) (fun h => ?_)
    · refine z_sub (lo' := [some (zr 137), none, none, none, none]) (zsub_s (zsub_n (zsub_n (zsub_n (zsub_n zsub_0))))) ?_
      exact K1 _ _ (Option.some.inj h).symm hv trivial
    · refine z_iload_n C (zd tX12_rules 90 rfl) rfl ?_
      refine z_if_ne (tgt := 182) C Rx3 (zd tX12_rules 91 rfl) (by decide) h (fun h => ?_) (fun h => ?_)
      · refine z_sub (lo' := [some (zr 137), none, none, none, none]) (zsub_s (zsub_n (zsub_n (zsub_n (zsub_n zsub_0))))) ?_
        exact K1 _ _ (Option.some.inj h).symm hv trivial
      · refine z_aload_n C (zd tX12_rules 92 rfl) rfl ?_
        refine gl_12_13 (t := 141) C (lg_137 ho) zic_12 (zm zwd_1003) (vl_12_13 ho hv (lg_137 ho)) (zd tX12_rules 93 rfl) ?_
        refine z_iload C (zd tX12_rules 94 rfl) rfl ?_
        refine z_iconst C (zd tX12_rules 95 rfl) ?_
        obtain ⟨q36, h⟩ := zck_some h
        obtain ⟨v37, ev37, h⟩ := zb_some h
        have hv37 : zV 137 24 v37 := by rw [ev37]; exact hv.st (zR_c 0 rfl) (lg_141 ho).1 (Or.inr rfl)
        refine za_iast C (lg_141 ho) rfl (by decide) q36 ev37 (zd tX12_rules 96 rfl) ?_
        obtain ⟨t38, et38, Rt38, h⟩ := zn_some h
        refine z_iincE C (zd tX12_rules 97 rfl) (by rw [hN]; decide) rfl et38 ?_
        refine z_goto (tgt := 158) C (zd tX12_rules 98 rfl) (by decide) ?_
        refine z_sub (lo' := [some (zr 137), none, none, some (zi x3), some (zi t38)]) (zsub_s (zsub_n (zsub_n (zsub_s (zsub_s zsub_0))))) ?_
        exact ih v37 x3 t38 _ h hv37 Rx3 Rt38 K1
set_option maxRecDepth 100000 in
set_option maxHeartbeats 4000000 in
theorem qX12_rules (l : Launch) (D : va_G) (ids : Nat → ClassId) (b : Nat) {x1 : Int} (Rx1 : zR x1) {v v' : zHp} {r' : Int} (hv : zV 137 24 v) (h : fX12_rules v x1 = some (v', r')) : zCT l yX12_rules vsX12_rules rmX12_rules D ids b 137 False 24 [zr 137, zi x1] v 24 (zV 137 24 v' ∧ zR r') (some (zi r')) v' 260 2080 := by
  refine zMet (own := RX12) (by decide +kernel) (show vsX12_rules = _ from rfl) (Nat.le_of_ble_eq_true rfl) rfl ?_
  intro E hl hRm hD hids hb ho hz hN C hname ret
  subst hl hD hids hb
  unfold fX12_rules at h
  refine z_aload_n C (zd tX12_rules 0 rfl) rfl ?_
  refine z_iconst C (zd tX12_rules 1 rfl) ?_
  obtain ⟨v1, ev1, h⟩ := zb_some h
  have hv1 : zV 137 24 v1 := by rw [ev1]; exact hv.st (zR_c 0 rfl) (lg_137 ho).1 (Or.inr rfl)
  refine pf_12_0 C (lg_137 ho) zic_12 (zm zwd_990) ev1 (zd tX12_rules 2 rfl) ?_
  refine z_iload_n C (zd tX12_rules 3 rfl) rfl ?_
  refine z_iconst C (zd tX12_rules 4 rfl) ?_
  refine z_aload_n C (zd tX12_rules 5 rfl) rfl ?_
  refine gf_12_2 C (lg_137 ho) zic_12 (zm zwd_992) (zd tX12_rules 6 rfl) ?_
  obtain ⟨v2, r3, cv2, h⟩ := zcl_some h
  refine zc_SA C ho hz hRm (qX12_within _ _ _ _ Rx1 (zR_c 0 rfl) (hv1.1 _ _) hv1 cv2) (zgS zwd_1109 zwd_1110 zwd_13 zwd_1111) rfl pX12_within rfl ⟨rfl, rfl⟩ ⟨Nat.le_of_ble_eq_true rfl, Nat.le_of_ble_eq_true rfl⟩ (k' := 0) (n' := 0) ⟨rfl, rfl⟩ ⟨by decide, by decide⟩ [] rfl (Nat.le_of_ble_eq_true rfl) (zd tX12_rules 7 rfl) [zi r3] rfl (fun p4 => ?_)
  refine z_if_ne (tgt := 19) C p4.2 (zd tX12_rules 8 rfl) (by decide) h (fun h => ?_) (fun h => ?_)
  · refine z_aload_n C (zd tX12_rules 11 rfl) rfl ?_
    refine z_iload_n C (zd tX12_rules 12 rfl) rfl ?_
    obtain ⟨v5, ev5, h⟩ := zb_some h
    have hv5 : zV 137 24 v5 := by rw [ev5]; exact p4.1.st Rx1 (lg_137 ho).1 (Or.inr rfl)
    refine pf_12_3 C (lg_137 ho) zic_12 (zm zwd_993) ev5 (zd tX12_rules 13 rfl) ?_
    refine z_aload_n C (zd tX12_rules 14 rfl) rfl ?_
    refine z_iconst C (zd tX12_rules 15 rfl) ?_
    obtain ⟨v6, ev6, h⟩ := zb_some h
    have hv6 : zV 137 24 v6 := by rw [ev6]; exact hv5.st (zR_c 0 rfl) (lg_137 ho).1 (Or.inr rfl)
    refine pf_12_2 C (lg_137 ho) zic_12 (zm zwd_992) ev6 (zd tX12_rules 16 rfl) ?_
    refine z_aload_n C (zd tX12_rules 17 rfl) rfl ?_
    refine z_iconst C (zd tX12_rules 18 rfl) ?_
    obtain ⟨v7, ev7, h⟩ := zb_some h
    have hv7 : zV 137 24 v7 := by rw [ev7]; exact hv6.st (zR_c 0 rfl) (lg_137 ho).1 (Or.inr rfl)
    refine pf_12_5 C (lg_137 ho) zic_12 (zm zwd_995) ev7 (zd tX12_rules 19 rfl) ?_
    refine z_aload_n C (zd tX12_rules 20 rfl) rfl ?_
    refine z_iconst C (zd tX12_rules 21 rfl) ?_
    obtain ⟨v8, ev8, h⟩ := zb_some h
    have hv8 : zV 137 24 v8 := by rw [ev8]; exact hv7.st (zR_c 0 rfl) (lg_137 ho).1 (Or.inr rfl)
    refine pf_12_8 C (lg_137 ho) zic_12 (zm zwd_998) ev8 (zd tX12_rules 22 rfl) ?_
    refine z_aload_n C (zd tX12_rules 23 rfl) rfl ?_
    obtain ⟨v9, r10, cv9, h⟩ := zcl_some h
    refine zc_VA C ho hz hRm (qX12_clearsDraft _ _ _ _ hv8 cv9) (lg_137 ho) (by decide) rfl (zgV zwd_982 zwd_984 zws_31 zwd_13 zwd_985) rfl pX12_clearsDraft rfl ⟨rfl, rfl⟩ ⟨Nat.le_of_ble_eq_true rfl, Nat.le_of_ble_eq_true rfl⟩ (k' := 0) (n' := 0) ⟨rfl, rfl⟩ ⟨by decide, by decide⟩ [] rfl (Nat.le_of_ble_eq_true rfl) (zd tX12_rules 24 rfl) [] rfl (fun p11 => ?_)
    refine z_aload_n C (zd tX12_rules 25 rfl) rfl ?_
    obtain ⟨v12, r13, cv12, h⟩ := zcl_some h
    refine zc_VA C ho hz hRm (qX12_go _ _ _ _ p11 cv12) (lg_137 ho) (by decide) rfl (zgV zwd_1112 zwd_1114 zws_33 zwd_13 zwd_1115) rfl pX12_go rfl ⟨rfl, rfl⟩ ⟨Nat.le_of_ble_eq_true rfl, Nat.le_of_ble_eq_true rfl⟩ (k' := 0) (n' := 0) ⟨rfl, rfl⟩ ⟨by decide, by decide⟩ [] rfl (Nat.le_of_ble_eq_true rfl) (zd tX12_rules 26 rfl) [] rfl (fun p14 => ?_)
    refine z_iconst C (zd tX12_rules 27 rfl) ?_
    refine z_istore_n C (zd tX12_rules 28 rfl) (by rw [hN]; decide) ?_
    refine z_sub (lo' := [some (zr 137), none, some (zi 1), none, none]) (zsub_s (zsub_n (zsub_s (zsub_n (zsub_n zsub_0))))) ?_
    obtain ⟨v24, w25, lv24, h⟩ := zl_some h
    refine bX12_rules_L49 C hN ho hz hRm 20 v12 1 _ _ _ lv24 ⟨by decide, by decide⟩ p14 (zR_c 1 rfl) (fun w1 q1 e1 hv24 Rw25 => ?_)
    obtain ⟨rfl, rfl⟩ := zpp e1
    refine z_iload_n C (zd tX12_rules 52 rfl) rfl ?_
    refine z_if_ne (tgt := 106) C Rw25 (zd tX12_rules 53 rfl) (by decide) h (fun h => ?_) (fun h => ?_)
    · refine z_iconst C (zd tX12_rules 59 rfl) ?_
      refine z_istore_n C (zd tX12_rules 60 rfl) (by rw [hN]; decide) ?_
      refine z_iconst C (zd tX12_rules 61 rfl) ?_
      refine z_istore C (zd tX12_rules 62 rfl) (by rw [hN]; decide) ?_
      refine z_sub (lo' := [some (zr 137), none, none, some (zi 1), some (zi 5)]) (zsub_s (zsub_n (zsub_n (zsub_s (zsub_s zsub_0))))) ?_
      obtain ⟨v31, w32, lv31, h⟩ := zl_some h
      refine bX12_rules_L111 C hN ho hz hRm zFU v24 1 5 _ lv31 hv24 (zR_c 1 rfl) (zR_c 5 rfl) (fun w1 q1 e1 hv31 Rw32 => ?_)
      obtain ⟨rfl, rfl⟩ := zpp e1
      refine z_aload_n C (zd tX12_rules 83 rfl) rfl ?_
      obtain ⟨v33, r34, cv33, h⟩ := zcl_some h
      refine zc_VA C ho hz hRm (qX12_takes _ _ _ _ hv31 cv33) (lg_137 ho) (by decide) rfl (zgV zwd_986 zwd_988 zws_32 zwd_13 zwd_989) rfl pX12_takes rfl ⟨rfl, rfl⟩ ⟨Nat.le_of_ble_eq_true rfl, Nat.le_of_ble_eq_true rfl⟩ (k' := 260) (n' := 2080) ⟨rfl, rfl⟩ ⟨by decide, by decide⟩ [] rfl (Nat.le_of_ble_eq_true rfl) (zd tX12_rules 84 rfl) [] rfl (fun p35 => ?_)
      refine z_iconst C (zd tX12_rules 85 rfl) ?_
      refine z_istore C (zd tX12_rules 86 rfl) (by rw [hN]; decide) ?_
      refine z_sub (lo' := [some (zr 137), none, none, some (zi w32), some (zi 0)]) (zsub_s (zsub_n (zsub_n (zsub_s (zsub_s zsub_0))))) ?_
      obtain ⟨v39, w40, lv39, h⟩ := zl_some h
      refine bX12_rules_L158 C hN ho hz hRm zFU v33 w32 0 _ lv39 p35 Rw32 (zR_c 0 rfl) (fun w1 q1 e1 hv39 Rw40 => ?_)
      obtain ⟨rfl, rfl⟩ := zpp e1
      refine z_aload_n C (zd tX12_rules 99 rfl) rfl ?_
      refine z_iconst C (zd tX12_rules 100 rfl) ?_
      obtain ⟨v41, ev41, h⟩ := zb_some h
      have hv41 : zV 137 24 v41 := by rw [ev41]; exact hv39.st (zR_c 0 rfl) (lg_137 ho).1 (Or.inr rfl)
      refine pf_12_16 C (lg_137 ho) zic_12 (zm zwd_1006) ev41 (zd tX12_rules 101 rfl) ?_
      refine z_aload_n C (zd tX12_rules 102 rfl) rfl ?_
      refine gl_12_10 (t := 139) C (lg_137 ho) zic_12 (zm zwd_1000) (vl_12_10 ho hv41 (lg_137 ho)) (zd tX12_rules 103 rfl) ?_
      refine z_bipush C (by decide) (zd tX12_rules 104 rfl) ?_
      obtain ⟨q42, h⟩ := zck_some h
      refine za_iald C (lg_139 ho) rfl (by decide) q42 (zd tX12_rules 105 rfl) ?_
      obtain ⟨rfl, rfl⟩ := zpi h
      exact ret.1 _ _ _ _ ⟨hv41, (hv41.1 _ _)⟩ rfl rfl rfl (zd tX12_rules 106 rfl)
    · refine z_bipush C (by decide) (zd tX12_rules 54 rfl) ?_
      refine z_aload_n C (zd tX12_rules 55 rfl) rfl ?_
      refine gf_12_8 C (lg_137 ho) zic_12 (zm zwd_998) (zd tX12_rules 56 rfl) ?_
      refine z_isub C (zd tX12_rules 57 rfl) ?_
      obtain ⟨t43, et43, Rt43, h⟩ := zn_some h
      refine z_n0 (congrArg zI et43.symm) ?_
      obtain ⟨rfl, rfl⟩ := zpi h
      exact ret.1 _ _ _ _ ⟨hv24, Rt43⟩ rfl rfl rfl (zd tX12_rules 58 rfl)
  · refine z_iconst C (zd tX12_rules 9 rfl) ?_
    refine z_widen (k' := 260) (n' := 2080) (by decide) (by decide) ?_
    obtain ⟨rfl, rfl⟩ := zpi h
    exact ret.1 _ _ _ _ ⟨p4.1, (zR_c (-1) rfl)⟩ rfl rfl rfl (zd tX12_rules 10 rfl)
noncomputable def vsX12_span : List Cond := .code yX12_span cX12_span 6 (some .int) :: zbig
abbrev rmX12_span : Room := { frames := 4, cells := 0, slots := 0, locals := 90 }
theorem pX12_span : yX12_span.cls = RX12 ∧ yX12_span.cls ≠ "java/lang/invoke/MethodHandle" ∧ yX12_span.cls ≠ "java/lang/invoke/VarHandle" ∧ (parseMethodDescriptor yX12_span.desc).map (fun d => d.parameters.length) = some 3 := by decide +kernel
set_option maxRecDepth 100000 in
set_option maxHeartbeats 4000000 in
theorem bX12_span_L66 {E : zE} (C : zC E 24 cX12_span RX12 vsX12_span) (hN : zEN E = 6) (ho : zEo E = 137) (hz : zEz E = False) (hRm : zER E = rmX12_span) : ∀ (fu : Nat) (v : zHp) (x2 : Int) (x3 : Int) (x4 : Int) (x5 : Int) (res : (zHp × (Int))), fX12_span_L66 fu v x2 x3 x4 x5 = some res → zV 137 24 v → zR x2 → zR x3 → zR x4 → zR x5 → (∀ (w : zHp) (q : Int), res = (w, q) → zV 137 24 w → zR q → zX E 0 0 24 w 103 [some (zr 137), none, some (zi x2), some (zi x3), some (zi q), none] []) → zX E 0 0 24 v 66 [some (zr 137), none, some (zi x2), some (zi x3), some (zi x4), some (zi x5)] [] := by
  intro fu
  induction fu with
  | zero =>
    intro v _ _ _ _ res h
    cases h
  | succ fu ih =>
    intro v x2 x3 x4 x5 res h hv Rx2 Rx3 Rx4 Rx5 K1
    rw [fX12_span_L66.eq_2] at h
    refine z_iload C (zd tX12_span 40 rfl) rfl ?_
    refine z_aload_n C (zd tX12_span 41 rfl) rfl ?_
    refine gl_12_21 (t := 147) C (lg_137 ho) zic_12 (zm zwd_1011) (vl_12_21 ho hv (lg_137 ho)) (zd tX12_span 42 rfl) ?_
    refine z_iload_n C (zd tX12_span 43 rfl) rfl ?_
    obtain ⟨q16, h⟩ := zck_some h
    refine za_iald C (lg_147 ho) rfl (by decide) q16 (zd tX12_span 44 rfl) ?_
    refine z_icmp_ge (tgt := 103) C Rx5 (hv.1 _ _) (zd tX12_span 45 rfl) (by decide) h (fun h => ?_) (fun h => ?_)
    · refine z_sub (lo' := [some (zr 137), none, some (zi x2), some (zi x3), some (zi x4), none]) (zsub_s (zsub_n (zsub_s (zsub_s (zsub_s (zsub_n zsub_0)))))) ?_
      exact K1 _ _ (Option.some.inj h).symm hv Rx4
    · refine z_iload C (zd tX12_span 46 rfl) rfl ?_
      refine z_aload_n C (zd tX12_span 47 rfl) rfl ?_
      refine z_iload_n C (zd tX12_span 48 rfl) rfl ?_
      refine z_iload C (zd tX12_span 49 rfl) rfl ?_
      obtain ⟨v17, r18, cv17, h⟩ := zcl_some h
      refine zc_V C ho hz hRm (qX12_isOfSpan _ _ _ _ Rx2 Rx5 hv cv17) (lg_137 ho) (by decide) rfl (zgV zwd_1255 zwd_1257 zws_59 zwd_13 zwd_1258) rfl pX12_isOfSpan rfl ⟨rfl, rfl⟩ ⟨Nat.le_of_ble_eq_true rfl, Nat.le_of_ble_eq_true rfl⟩ [zi x4] rfl (Nat.le_of_ble_eq_true rfl) (zd tX12_span 50 rfl) [zi r18, zi x4] rfl (fun p19 => ?_)
      refine z_if_eq (tgt := 93) C p19.2 (zd tX12_span 51 rfl) (by decide) h (fun h => ?_) (fun h => ?_)
      · refine z_iconst C (zd tX12_span 54 rfl) ?_
        refine z_iadd C (zd tX12_span 55 rfl) ?_
        obtain ⟨t20, et20, Rt20, h⟩ := zn_some h
        refine z_n0 (congrArg zI et20.symm) ?_
        refine z_istore C (zd tX12_span 56 rfl) (by rw [hN]; decide) ?_
        obtain ⟨t21, et21, Rt21, h⟩ := zn_some h
        refine z_iincE C (zd tX12_span 57 rfl) (by rw [hN]; decide) rfl et21 ?_
        refine z_goto (tgt := 66) C (zd tX12_span 58 rfl) (by decide) ?_
        refine z_sub (lo' := [some (zr 137), none, some (zi x2), some (zi x3), some (zi t20), some (zi t21)]) (zsub_s (zsub_n (zsub_s (zsub_s (zsub_s (zsub_s zsub_0)))))) ?_
        exact ih v17 x2 x3 t20 t21 _ h p19.1 Rx2 Rx3 Rt20 Rt21 K1
      · refine z_iconst C (zd tX12_span 52 rfl) ?_
        refine z_goto (tgt := 94) C (zd tX12_span 53 rfl) (by decide) ?_
        refine z_iadd C (zd tX12_span 55 rfl) ?_
        obtain ⟨t22, et22, Rt22, h⟩ := zn_some h
        refine z_n0 (congrArg zI et22.symm) ?_
        refine z_istore C (zd tX12_span 56 rfl) (by rw [hN]; decide) ?_
        obtain ⟨t23, et23, Rt23, h⟩ := zn_some h
        refine z_iincE C (zd tX12_span 57 rfl) (by rw [hN]; decide) rfl et23 ?_
        refine z_goto (tgt := 66) C (zd tX12_span 58 rfl) (by decide) ?_
        refine z_sub (lo' := [some (zr 137), none, some (zi x2), some (zi x3), some (zi t22), some (zi t23)]) (zsub_s (zsub_n (zsub_s (zsub_s (zsub_s (zsub_s zsub_0)))))) ?_
        exact ih v17 x2 x3 t22 t23 _ h p19.1 Rx2 Rx3 Rt22 Rt23 K1
set_option maxRecDepth 100000 in
set_option maxHeartbeats 4000000 in
theorem qX12_span (l : Launch) (D : va_G) (ids : Nat → ClassId) (b : Nat) {x1 : Int} (Rx1 : zR x1) {x2 : Int} (Rx2 : zR x2) {x3 : Int} (Rx3 : zR x3) {v v' : zHp} {r' : Int} (hv : zV 137 24 v) (h : fX12_span v x1 x2 x3 = some (v', r')) : zCT l yX12_span vsX12_span rmX12_span D ids b 137 False 24 [zr 137, zi x1, zi x2, zi x3] v 24 (zV 137 24 v' ∧ zR r') (some (zi r')) v' 0 0 := by
  refine zMet (own := RX12) (by decide +kernel) (show vsX12_span = _ from rfl) (Nat.le_of_ble_eq_true rfl) rfl ?_
  intro E hl hRm hD hids hb ho hz hN C hname ret
  subst hl hD hids hb
  unfold fX12_span at h
  refine z_aload_n C (zd tX12_span 0 rfl) rfl ?_
  refine z_iconst C (zd tX12_span 1 rfl) ?_
  obtain ⟨v1, ev1, h⟩ := zb_some h
  have hv1 : zV 137 24 v1 := by rw [ev1]; exact hv.st (zR_c 0 rfl) (lg_137 ho).1 (Or.inr rfl)
  refine pf_12_0 C (lg_137 ho) zic_12 (zm zwd_990) ev1 (zd tX12_span 2 rfl) ?_
  refine z_aload_n C (zd tX12_span 3 rfl) rfl ?_
  refine z_iload_n C (zd tX12_span 4 rfl) rfl ?_
  obtain ⟨v2, r3, cv2, h⟩ := zcl_some h
  refine zc_V C ho hz hRm (qX12_isWorker _ _ _ _ Rx1 hv1 cv2) (lg_137 ho) (by decide) rfl (zgV zwd_1211 zwd_1213 zws_52 zwd_13 zwd_1214) rfl pX12_isWorker rfl ⟨rfl, rfl⟩ ⟨Nat.le_of_ble_eq_true rfl, Nat.le_of_ble_eq_true rfl⟩ [] rfl (Nat.le_of_ble_eq_true rfl) (zd tX12_span 5 rfl) [zi r3] rfl (fun p4 => ?_)
  refine z_if_ne (tgt := 15) C p4.2 (zd tX12_span 6 rfl) (by decide) h (fun h => ?_) (fun h => ?_)
  · refine z_aload_n C (zd tX12_span 9 rfl) rfl ?_
    refine z_iload_n C (zd tX12_span 10 rfl) rfl ?_
    obtain ⟨v5, r6, cv5, h⟩ := zcl_some h
    refine zc_V C ho hz hRm (qX12_laysPairs _ _ _ _ Rx1 p4.1 cv5) (lg_137 ho) (by decide) rfl (zgV zwd_1243 zwd_1245 zws_57 zwd_13 zwd_1246) rfl pX12_laysPairs rfl ⟨rfl, rfl⟩ ⟨Nat.le_of_ble_eq_true rfl, Nat.le_of_ble_eq_true rfl⟩ [] rfl (Nat.le_of_ble_eq_true rfl) (zd tX12_span 11 rfl) [] rfl (fun p7 => ?_)
    refine z_iload_n C (zd tX12_span 12 rfl) rfl ?_
    refine z_iconst C (zd tX12_span 13 rfl) ?_
    refine z_icmp_ne (tgt := 30) C Rx2 (zR_c (-1) rfl) (zd tX12_span 14 rfl) (by decide) h (fun h => ?_) (fun h => ?_)
    · refine z_iload_n C (zd tX12_span 18 rfl) rfl ?_
      refine z_iconst C (zd tX12_span 19 rfl) ?_
      refine z_aload_n C (zd tX12_span 20 rfl) rfl ?_
      refine gf_12_19 C (lg_137 ho) zic_12 (zm zwd_1009) (zd tX12_span 21 rfl) ?_
      refine z_iconst C (zd tX12_span 22 rfl) ?_
      refine z_isub C (zd tX12_span 23 rfl) ?_
      obtain ⟨t8, et8, Rt8, h⟩ := zn_some h
      refine z_nk 0 (congrArg zI et8.symm) rfl ?_
      obtain ⟨v9, r10, cv9, h⟩ := zcl_some h
      refine zc_S C ho hz hRm (qX12_within _ _ _ _ Rx2 (zR_c 0 rfl) Rt8 p7 cv9) (zgS zwd_1109 zwd_1110 zwd_13 zwd_1111) rfl pX12_within rfl ⟨rfl, rfl⟩ ⟨Nat.le_of_ble_eq_true rfl, Nat.le_of_ble_eq_true rfl⟩ [] rfl (Nat.le_of_ble_eq_true rfl) (zd tX12_span 24 rfl) [zi r10] rfl (fun p11 => ?_)
      refine z_if_eq (tgt := 53) C p11.2 (zd tX12_span 25 rfl) (by decide) h (fun h => ?_) (fun h => ?_)
      · refine z_iconst C (zd tX12_span 31 rfl) ?_
        obtain ⟨rfl, rfl⟩ := zpi h
        exact ret.1 _ _ _ _ ⟨p11.1, (zR_c (-1) rfl)⟩ rfl rfl rfl (zd tX12_span 32 rfl)
      · refine z_iload_n C (zd tX12_span 26 rfl) rfl ?_
        refine z_iconst C (zd tX12_span 27 rfl) ?_
        refine z_iconst C (zd tX12_span 28 rfl) ?_
        obtain ⟨v12, r13, cv12, h⟩ := zcl_some h
        refine zc_S C ho hz hRm (qX12_within _ _ _ _ Rx3 (zR_c 0 rfl) (zR_c 2 rfl) p11.1 cv12) (zgS zwd_1109 zwd_1110 zwd_13 zwd_1111) rfl pX12_within rfl ⟨rfl, rfl⟩ ⟨Nat.le_of_ble_eq_true rfl, Nat.le_of_ble_eq_true rfl⟩ [] rfl (Nat.le_of_ble_eq_true rfl) (zd tX12_span 29 rfl) [zi r13] rfl (fun p14 => ?_)
        refine z_if_ne (tgt := 55) C p14.2 (zd tX12_span 30 rfl) (by decide) h (fun h => ?_) (fun h => ?_)
        · refine z_iconst C (zd tX12_span 33 rfl) ?_
          refine z_istore C (zd tX12_span 34 rfl) (by rw [hN]; decide) ?_
          refine z_aload_n C (zd tX12_span 35 rfl) rfl ?_
          refine gl_12_20 (t := 146) C (lg_137 ho) zic_12 (zm zwd_1010) (vl_12_20 ho p14.1 (lg_137 ho)) (zd tX12_span 36 rfl) ?_
          refine z_iload_n C (zd tX12_span 37 rfl) rfl ?_
          obtain ⟨q15, h⟩ := zck_some h
          refine za_iald C (lg_146 ho) rfl (by decide) q15 (zd tX12_span 38 rfl) ?_
          refine z_istore C (zd tX12_span 39 rfl) (by rw [hN]; decide) ?_
          refine z_sub (lo' := [some (zr 137), none, some (zi x2), some (zi x3), some (zi 0), some (zi (v12 146 x2))]) (zsub_s (zsub_n (zsub_s (zsub_s (zsub_s (zsub_s zsub_0)))))) ?_
          obtain ⟨v24, w25, lv24, h⟩ := zl_some h
          refine bX12_span_L66 C hN ho hz hRm zFU v12 x2 x3 0 (v12 146 x2) _ lv24 p14.1 Rx2 Rx3 (zR_c 0 rfl) (p14.1.1 _ _) (fun w1 q1 e1 hv24 Rw25 => ?_)
          obtain ⟨rfl, rfl⟩ := zpp e1
          refine z_iload_n C (zd tX12_span 59 rfl) rfl ?_
          refine z_if_ne (tgt := 116) C Rx3 (zd tX12_span 60 rfl) (by decide) h (fun h => ?_) (fun h => ?_)
          · refine z_iload_n C (zd tX12_span 66 rfl) rfl ?_
            refine z_iconst C (zd tX12_span 67 rfl) ?_
            refine z_icmp_ne (tgt := 130) C Rx3 (zR_c 1 rfl) (zd tX12_span 68 rfl) (by decide) h (fun h => ?_) (fun h => ?_)
            · refine z_iload C (zd tX12_span 74 rfl) rfl ?_
              obtain ⟨rfl, rfl⟩ := zpi h
              exact ret.1 _ _ _ _ ⟨hv24, Rw25⟩ rfl rfl rfl (zd tX12_span 75 rfl)
            · refine z_aload_n C (zd tX12_span 69 rfl) rfl ?_
              refine gl_12_21 (t := 147) C (lg_137 ho) zic_12 (zm zwd_1011) (vl_12_21 ho hv24 (lg_137 ho)) (zd tX12_span 70 rfl) ?_
              refine z_iload_n C (zd tX12_span 71 rfl) rfl ?_
              obtain ⟨q26, h⟩ := zck_some h
              refine za_iald C (lg_147 ho) rfl (by decide) q26 (zd tX12_span 72 rfl) ?_
              refine z_goto (tgt := 132) C (zd tX12_span 73 rfl) (by decide) ?_
              obtain ⟨rfl, rfl⟩ := zpi h
              exact ret.1 _ _ _ _ ⟨hv24, (hv24.1 _ _)⟩ rfl rfl rfl (zd tX12_span 75 rfl)
          · refine z_aload_n C (zd tX12_span 61 rfl) rfl ?_
            refine gl_12_20 (t := 146) C (lg_137 ho) zic_12 (zm zwd_1010) (vl_12_20 ho hv24 (lg_137 ho)) (zd tX12_span 62 rfl) ?_
            refine z_iload_n C (zd tX12_span 63 rfl) rfl ?_
            obtain ⟨q27, h⟩ := zck_some h
            refine za_iald C (lg_146 ho) rfl (by decide) q27 (zd tX12_span 64 rfl) ?_
            refine z_goto (tgt := 132) C (zd tX12_span 65 rfl) (by decide) ?_
            obtain ⟨rfl, rfl⟩ := zpi h
            exact ret.1 _ _ _ _ ⟨hv24, (hv24.1 _ _)⟩ rfl rfl rfl (zd tX12_span 75 rfl)
        · refine z_iconst C (zd tX12_span 31 rfl) ?_
          obtain ⟨rfl, rfl⟩ := zpi h
          exact ret.1 _ _ _ _ ⟨p14.1, (zR_c (-1) rfl)⟩ rfl rfl rfl (zd tX12_span 32 rfl)
    · refine z_aload_n C (zd tX12_span 15 rfl) rfl ?_
      refine gf_12_19 C (lg_137 ho) zic_12 (zm zwd_1009) (zd tX12_span 16 rfl) ?_
      obtain ⟨rfl, rfl⟩ := zpi h
      exact ret.1 _ _ _ _ ⟨p7, (p7.1 _ _)⟩ rfl rfl rfl (zd tX12_span 17 rfl)
  · refine z_iconst C (zd tX12_span 7 rfl) ?_
    obtain ⟨rfl, rfl⟩ := zpi h
    exact ret.1 _ _ _ _ ⟨p4.1, (zR_c (-1) rfl)⟩ rfl rfl rfl (zd tX12_span 8 rfl)
noncomputable def vsX12_strike : List Cond := .code yX12_strike cX12_strike 6 (some .int) :: zbig
abbrev rmX12_strike : Room := { frames := 2, cells := 0, slots := 0, locals := 48 }
theorem pX12_strike : yX12_strike.cls = RX12 ∧ yX12_strike.cls ≠ "java/lang/invoke/MethodHandle" ∧ yX12_strike.cls ≠ "java/lang/invoke/VarHandle" ∧ (parseMethodDescriptor yX12_strike.desc).map (fun d => d.parameters.length) = some 4 := by decide +kernel
set_option maxRecDepth 100000 in
set_option maxHeartbeats 4000000 in
theorem qX12_strike (l : Launch) (D : va_G) (ids : Nat → ClassId) (b : Nat) {x1 : Int} (Rx1 : zR x1) {x2 : Int} (Rx2 : zR x2) {x3 : Int} (Rx3 : zR x3) {x4 : Int} (Rx4 : zR x4) {v v' : zHp} {r' : Int} (hv : zV 137 24 v) (h : fX12_strike v x1 x2 x3 x4 = some (v', r')) : zCT l yX12_strike vsX12_strike rmX12_strike D ids b 137 False 24 [zr 137, zi x1, zi x2, zi x3, zi x4] v 24 (zV 137 24 v' ∧ zR r') (some (zi r')) v' 0 0 := by
  refine zMet (own := RX12) (by decide +kernel) (show vsX12_strike = _ from rfl) (Nat.le_of_ble_eq_true rfl) rfl ?_
  intro E hl hRm hD hids hb ho hz hN C hname ret
  subst hl hD hids hb
  unfold fX12_strike at h
  refine z_aload_n C (zd tX12_strike 0 rfl) rfl ?_
  refine z_iconst C (zd tX12_strike 1 rfl) ?_
  obtain ⟨v1, ev1, h⟩ := zb_some h
  have hv1 : zV 137 24 v1 := by rw [ev1]; exact hv.st (zR_c 0 rfl) (lg_137 ho).1 (Or.inr rfl)
  refine pf_12_0 C (lg_137 ho) zic_12 (zm zwd_990) ev1 (zd tX12_strike 2 rfl) ?_
  refine z_aload_n C (zd tX12_strike 3 rfl) rfl ?_
  refine z_iload_n C (zd tX12_strike 4 rfl) rfl ?_
  refine z_iload_n C (zd tX12_strike 5 rfl) rfl ?_
  refine z_iload C (zd tX12_strike 6 rfl) rfl ?_
  obtain ⟨v2, r3, cv2, h⟩ := zcl_some h
  refine zc_V C ho hz hRm (qX12_momentOf _ _ _ _ Rx2 Rx3 Rx4 hv1 cv2) (lg_137 ho) (by decide) rfl (zgV zwd_1185 zwd_1187 zws_48 zwd_13 zwd_1188) rfl pX12_momentOf rfl ⟨rfl, rfl⟩ ⟨Nat.le_of_ble_eq_true rfl, Nat.le_of_ble_eq_true rfl⟩ [] rfl (Nat.le_of_ble_eq_true rfl) (zd tX12_strike 7 rfl) [zi r3] rfl (fun p4 => ?_)
  refine z_istore C (zd tX12_strike 8 rfl) (by rw [hN]; decide) ?_
  refine z_aload_n C (zd tX12_strike 9 rfl) rfl ?_
  refine z_iload_n C (zd tX12_strike 10 rfl) rfl ?_
  obtain ⟨v5, r6, cv5, h⟩ := zcl_some h
  refine zc_V C ho hz hRm (qX12_isWorker _ _ _ _ Rx1 p4.1 cv5) (lg_137 ho) (by decide) rfl (zgV zwd_1211 zwd_1213 zws_52 zwd_13 zwd_1214) rfl pX12_isWorker rfl ⟨rfl, rfl⟩ ⟨Nat.le_of_ble_eq_true rfl, Nat.le_of_ble_eq_true rfl⟩ [] rfl (Nat.le_of_ble_eq_true rfl) (zd tX12_strike 11 rfl) [zi r6] rfl (fun p7 => ?_)
  refine z_if_eq (tgt := 40) C p7.2 (zd tX12_strike 12 rfl) (by decide) h (fun h => ?_) (fun h => ?_)
  · refine z_iconst C (zd tX12_strike 22 rfl) ?_
    obtain ⟨rfl, rfl⟩ := zpi h
    exact ret.1 _ _ _ _ ⟨p7.1, (zR_c (-1) rfl)⟩ rfl rfl rfl (zd tX12_strike 23 rfl)
  · refine z_iload C (zd tX12_strike 13 rfl) rfl ?_
    refine z_iconst C (zd tX12_strike 14 rfl) ?_
    refine z_icmp_eq (tgt := 40) C p4.2 (zR_c (-1) rfl) (zd tX12_strike 15 rfl) (by decide) h (fun h => ?_) (fun h => ?_)
    · refine z_iconst C (zd tX12_strike 22 rfl) ?_
      obtain ⟨rfl, rfl⟩ := zpi h
      exact ret.1 _ _ _ _ ⟨p7.1, (zR_c (-1) rfl)⟩ rfl rfl rfl (zd tX12_strike 23 rfl)
    · refine z_aload_n C (zd tX12_strike 16 rfl) rfl ?_
      refine z_iload_n C (zd tX12_strike 17 rfl) rfl ?_
      refine z_iload C (zd tX12_strike 18 rfl) rfl ?_
      obtain ⟨v8, r9, cv8, h⟩ := zcl_some h
      refine zc_V C ho hz hRm (qX12_placeOf _ _ _ _ Rx1 p4.2 p7.1 cv8) (lg_137 ho) (by decide) rfl (zgV zwd_1215 zwd_1217 zws_53 zwd_13 zwd_1218) rfl pX12_placeOf rfl ⟨rfl, rfl⟩ ⟨Nat.le_of_ble_eq_true rfl, Nat.le_of_ble_eq_true rfl⟩ [] rfl (Nat.le_of_ble_eq_true rfl) (zd tX12_strike 19 rfl) [zi r9] rfl (fun p10 => ?_)
      refine z_iconst C (zd tX12_strike 20 rfl) ?_
      refine z_icmp_ne (tgt := 42) C p10.2 (zR_c (-1) rfl) (zd tX12_strike 21 rfl) (by decide) h (fun h => ?_) (fun h => ?_)
      · refine z_aload_n C (zd tX12_strike 24 rfl) rfl ?_
        refine z_iconst C (zd tX12_strike 25 rfl) ?_
        refine z_iload_n C (zd tX12_strike 26 rfl) rfl ?_
        refine z_iload C (zd tX12_strike 27 rfl) rfl ?_
        refine z_aload_n C (zd tX12_strike 28 rfl) rfl ?_
        refine gl_12_15 (t := 143) C (lg_137 ho) zic_12 (zm zwd_1005) (vl_12_15 ho p10.1 (lg_137 ho)) (zd tX12_strike 29 rfl) ?_
        refine z_bipush C (by decide) (zd tX12_strike 30 rfl) ?_
        refine z_iload_n C (zd tX12_strike 31 rfl) rfl ?_
        refine z_imul C (zd tX12_strike 32 rfl) ?_
        refine z_aload_n C (zd tX12_strike 33 rfl) rfl ?_
        refine z_iload_n C (zd tX12_strike 34 rfl) rfl ?_
        refine z_iload C (zd tX12_strike 35 rfl) rfl ?_
        obtain ⟨v11, r12, cv11, h⟩ := zcl_some h
        refine zc_V C ho hz hRm (qX12_placeOf _ _ _ _ Rx1 p4.2 p10.1 cv11) (lg_137 ho) (by decide) rfl (zgV zwd_1215 zwd_1217 zws_53 zwd_13 zwd_1218) rfl pX12_placeOf rfl ⟨rfl, rfl⟩ ⟨Nat.le_of_ble_eq_true rfl, Nat.le_of_ble_eq_true rfl⟩ [zi (61 * x1), zr 143, zi r3, zi x1, zi 1, zr 137] rfl (Nat.le_of_ble_eq_true rfl) (zd tX12_strike 36 rfl) [zi r12, zi (61 * x1), zr 143, zi r3, zi x1, zi 1, zr 137] rfl (fun p13 => ?_)
        refine z_iadd C (zd tX12_strike 37 rfl) ?_
        obtain ⟨q14, h⟩ := zck_some h
        refine za_iald C (lg_143 ho) rfl (by decide) q14 (zd tX12_strike 38 rfl) ?_
        obtain ⟨v15, r16, cv15, h⟩ := zcl_some h
        refine zc_V C ho hz hRm (qX12_notes _ _ _ _ (zR_c 1 rfl) Rx1 p4.2 (p13.1.1 _ _) p13.1 cv15) (lg_137 ho) (by decide) rfl (zgV zwd_1223 zwd_1225 zws_55 zwd_13 zwd_1226) rfl pX12_notes rfl ⟨rfl, rfl⟩ ⟨Nat.le_of_ble_eq_true rfl, Nat.le_of_ble_eq_true rfl⟩ [] rfl (Nat.le_of_ble_eq_true rfl) (zd tX12_strike 39 rfl) [] rfl (fun p17 => ?_)
        refine z_aload_n C (zd tX12_strike 40 rfl) rfl ?_
        refine z_iload_n C (zd tX12_strike 41 rfl) rfl ?_
        refine z_iload C (zd tX12_strike 42 rfl) rfl ?_
        obtain ⟨v18, r19, cv18, h⟩ := zcl_some h
        refine zc_V C ho hz hRm (qX12_leaves _ _ _ _ Rx1 p4.2 p17 cv18) (lg_137 ho) (by decide) rfl (zgV zwd_1231 zwd_1233 zws_56 zwd_13 zwd_1234) rfl pX12_leaves rfl ⟨rfl, rfl⟩ ⟨Nat.le_of_ble_eq_true rfl, Nat.le_of_ble_eq_true rfl⟩ [] rfl (Nat.le_of_ble_eq_true rfl) (zd tX12_strike 43 rfl) [] rfl (fun p20 => ?_)
        refine z_aload_n C (zd tX12_strike 44 rfl) rfl ?_
        refine gl_12_13 (t := 141) C (lg_137 ho) zic_12 (zm zwd_1003) (vl_12_13 ho p20 (lg_137 ho)) (zd tX12_strike 45 rfl) ?_
        refine z_iload_n C (zd tX12_strike 46 rfl) rfl ?_
        obtain ⟨q21, h⟩ := zck_some h
        refine za_iald C (lg_141 ho) rfl (by decide) q21 (zd tX12_strike 47 rfl) ?_
        obtain ⟨rfl, rfl⟩ := zpi h
        exact ret.1 _ _ _ _ ⟨p20, (p20.1 _ _)⟩ rfl rfl rfl (zd tX12_strike 48 rfl)
      · refine z_iconst C (zd tX12_strike 22 rfl) ?_
        obtain ⟨rfl, rfl⟩ := zpi h
        exact ret.1 _ _ _ _ ⟨p10.1, (zR_c (-1) rfl)⟩ rfl rfl rfl (zd tX12_strike 23 rfl)
noncomputable def vsX12_thrown : List Cond := .code yX12_thrown cX12_thrown 1 (some .int) :: zbig
abbrev rmX12_thrown : Room := { frames := 0, cells := 0, slots := 0, locals := 0 }
theorem pX12_thrown : yX12_thrown.cls = RX12 ∧ yX12_thrown.cls ≠ "java/lang/invoke/MethodHandle" ∧ yX12_thrown.cls ≠ "java/lang/invoke/VarHandle" ∧ (parseMethodDescriptor yX12_thrown.desc).map (fun d => d.parameters.length) = some 0 := by decide +kernel
set_option maxRecDepth 100000 in
set_option maxHeartbeats 4000000 in
theorem qX12_thrown (l : Launch) (D : va_G) (ids : Nat → ClassId) (b : Nat)  {v v' : zHp} {r' : Int} (hv : zV 137 24 v) (h : fX12_thrown v = some (v', r')) : zCT l yX12_thrown vsX12_thrown rmX12_thrown D ids b 137 False 24 [zr 137] v 24 (zV 137 24 v' ∧ zR r') (some (zi r')) v' 0 0 := by
  refine zMet (own := RX12) (by decide +kernel) (show vsX12_thrown = _ from rfl) (Nat.le_of_ble_eq_true rfl) rfl ?_
  intro E hl hRm hD hids hb ho hz hN C hname ret
  subst hl hD hids hb
  unfold fX12_thrown at h
  refine z_aload_n C (zd tX12_thrown 0 rfl) rfl ?_
  refine gf_12_0 C (lg_137 ho) zic_12 (zm zwd_990) (zd tX12_thrown 1 rfl) ?_
  obtain ⟨rfl, rfl⟩ := zpi h
  exact ret.1 _ _ _ _ ⟨hv, (hv.1 _ _)⟩ rfl rfl rfl (zd tX12_thrown 2 rfl)
noncomputable def vsX12_together : List Cond := .code yX12_together cX12_together 5 (some .int) :: zbig
abbrev rmX12_together : Room := { frames := 5, cells := 0, slots := 0, locals := 113 }
theorem pX12_together : yX12_together.cls = RX12 ∧ yX12_together.cls ≠ "java/lang/invoke/MethodHandle" ∧ yX12_together.cls ≠ "java/lang/invoke/VarHandle" ∧ (parseMethodDescriptor yX12_together.desc).map (fun d => d.parameters.length) = some 2 := by decide +kernel
set_option maxRecDepth 100000 in
set_option maxHeartbeats 4000000 in
theorem bX12_together_L35 {E : zE} (C : zC E 24 cX12_together RX12 vsX12_together) (hN : zEN E = 5) (ho : zEo E = 137) (hz : zEz E = False) (hRm : zER E = rmX12_together) : ∀ (fu : Nat) (v : zHp) (x2 : Int) (x3 : Int) (res : (zHp × (Int))), fX12_together_L35 fu v x2 x3 = some res → zV 137 24 v → zR x2 → zR x3 → (∀ (w : zHp) (q : Int), res = (w, q) → zV 137 24 w → True → zX E 0 0 24 w 60 [some (zr 137), none, some (zi x2), none, none] []) → zX E 0 0 24 v 35 [some (zr 137), none, some (zi x2), some (zi x3), none] [] := by
  intro fu
  induction fu with
  | zero =>
    intro v _ _ res h
    cases h
  | succ fu ih =>
    intro v x2 x3 res h hv Rx2 Rx3 K1
    rw [fX12_together_L35.eq_2] at h
    refine z_iload_n C (zd tX12_together 21 rfl) rfl ?_
    refine z_sipush C (by decide) (zd tX12_together 22 rfl) ?_
    refine z_icmp_ge (tgt := 60) C Rx3 (zR_c 2720 rfl) (zd tX12_together 23 rfl) (by decide) h (fun h => ?_) (fun h => ?_)
    · refine z_sub (lo' := [some (zr 137), none, some (zi x2), none, none]) (zsub_s (zsub_n (zsub_s (zsub_n (zsub_n zsub_0))))) ?_
      exact K1 _ _ (Option.some.inj h).symm hv trivial
    · refine z_aload_n C (zd tX12_together 24 rfl) rfl ?_
      refine gl_12_37 (t := 160) C (lg_137 ho) zic_12 (zm zwd_1027) (vl_12_37 ho hv (lg_137 ho)) (zd tX12_together 25 rfl) ?_
      refine z_iload_n C (zd tX12_together 26 rfl) rfl ?_
      refine z_aload_n C (zd tX12_together 27 rfl) rfl ?_
      refine gl_12_22 (t := 148) C (lg_137 ho) zic_12 (zm zwd_1012) (vl_12_22 ho hv (lg_137 ho)) (zd tX12_together 28 rfl) ?_
      refine z_iload_n C (zd tX12_together 29 rfl) rfl ?_
      obtain ⟨q11, h⟩ := zck_some h
      refine za_zald C (lg_148 ho) rfl (by decide) q11 (zd tX12_together 30 rfl) ?_
      obtain ⟨q12, h⟩ := zck_some h
      obtain ⟨q13, h⟩ := zck_some h
      obtain ⟨v14, ev14, h⟩ := zb_some h
      have hv14 : zV 137 24 v14 := by rw [ev14]; exact hv.st (hv.1 _ _) (lg_160 ho).1 (Or.inr rfl)
      refine za_zast C (lg_160 ho) rfl (by decide) q12 q13 ev14 (zd tX12_together 31 rfl) ?_
      obtain ⟨t15, et15, Rt15, h⟩ := zn_some h
      refine z_iincE C (zd tX12_together 32 rfl) (by rw [hN]; decide) rfl et15 ?_
      refine z_goto (tgt := 35) C (zd tX12_together 33 rfl) (by decide) ?_
      refine z_sub (lo' := [some (zr 137), none, some (zi x2), some (zi t15), none]) (zsub_s (zsub_n (zsub_s (zsub_s (zsub_n zsub_0))))) ?_
      exact ih v14 x2 t15 _ h hv14 Rx2 Rt15 K1
set_option maxRecDepth 100000 in
set_option maxHeartbeats 4000000 in
theorem bX12_together_L70 {E : zE} (C : zC E 24 cX12_together RX12 vsX12_together) (hN : zEN E = 5) (ho : zEo E = 137) (hz : zEz E = False) (hRm : zER E = rmX12_together) : ∀ (fu : Nat) (v : zHp) (x3 : Int) (x4 : Int) (res : (zHp × (Int))), fX12_together_L70 fu v x3 x4 = some res → zV 137 24 v → zR x3 → zR x4 → (∀ (w : zHp) (q : Int), res = (w, q) → zV 137 24 w → zR q → zX E 0 0 24 w 112 [none, none, none, some (zi q), none] []) → zX E 0 0 24 v 70 [some (zr 137), none, none, some (zi x3), some (zi x4)] [] := by
  intro fu
  induction fu with
  | zero =>
    intro v _ _ res h
    cases h
  | succ fu ih =>
    intro v x3 x4 res h hv Rx3 Rx4 K1
    rw [fX12_together_L70.eq_2] at h
    refine z_iload C (zd tX12_together 41 rfl) rfl ?_
    refine z_sipush C (by decide) (zd tX12_together 42 rfl) ?_
    refine z_icmp_ge (tgt := 112) C Rx4 (zR_c 2720 rfl) (zd tX12_together 43 rfl) (by decide) h (fun h => ?_) (fun h => ?_)
    · refine z_sub (lo' := [none, none, none, some (zi x3), none]) (zsub_n (zsub_n (zsub_n (zsub_s (zsub_n zsub_0))))) ?_
      exact K1 _ _ (Option.some.inj h).symm hv Rx3
    · refine z_iload_n C (zd tX12_together 44 rfl) rfl ?_
      refine z_aload_n C (zd tX12_together 45 rfl) rfl ?_
      refine gl_12_37 (t := 160) C (lg_137 ho) zic_12 (zm zwd_1027) (vl_12_37 ho hv (lg_137 ho)) (zd tX12_together 46 rfl) ?_
      refine z_iload C (zd tX12_together 47 rfl) rfl ?_
      obtain ⟨q21, h⟩ := zck_some h
      refine za_zald C (lg_160 ho) rfl (by decide) q21 (zd tX12_together 48 rfl) ?_
      refine z_if_eq (tgt := 103) C (hv.1 _ _) (zd tX12_together 49 rfl) (by decide) h (fun h => ?_) (fun h => ?_)
      · refine z_iconst C (zd tX12_together 57 rfl) ?_
        refine z_iadd C (zd tX12_together 58 rfl) ?_
        obtain ⟨t22, et22, Rt22, h⟩ := zn_some h
        refine z_n0 (congrArg zI et22.symm) ?_
        refine z_istore_n C (zd tX12_together 59 rfl) (by rw [hN]; decide) ?_
        obtain ⟨t23, et23, Rt23, h⟩ := zn_some h
        refine z_iincE C (zd tX12_together 60 rfl) (by rw [hN]; decide) rfl et23 ?_
        refine z_goto (tgt := 70) C (zd tX12_together 61 rfl) (by decide) ?_
        refine z_sub (lo' := [some (zr 137), none, none, some (zi t22), some (zi t23)]) (zsub_s (zsub_n (zsub_n (zsub_s (zsub_s zsub_0))))) ?_
        exact ih v t22 t23 _ h hv Rt22 Rt23 K1
      · refine z_aload_n C (zd tX12_together 50 rfl) rfl ?_
        refine gl_12_22 (t := 148) C (lg_137 ho) zic_12 (zm zwd_1012) (vl_12_22 ho hv (lg_137 ho)) (zd tX12_together 51 rfl) ?_
        refine z_iload C (zd tX12_together 52 rfl) rfl ?_
        obtain ⟨q24, h⟩ := zck_some h
        refine za_zald C (lg_148 ho) rfl (by decide) q24 (zd tX12_together 53 rfl) ?_
        refine z_if_eq (tgt := 103) C (hv.1 _ _) (zd tX12_together 54 rfl) (by decide) h (fun h => ?_) (fun h => ?_)
        · refine z_iconst C (zd tX12_together 57 rfl) ?_
          refine z_iadd C (zd tX12_together 58 rfl) ?_
          obtain ⟨t25, et25, Rt25, h⟩ := zn_some h
          refine z_n0 (congrArg zI et25.symm) ?_
          refine z_istore_n C (zd tX12_together 59 rfl) (by rw [hN]; decide) ?_
          obtain ⟨t26, et26, Rt26, h⟩ := zn_some h
          refine z_iincE C (zd tX12_together 60 rfl) (by rw [hN]; decide) rfl et26 ?_
          refine z_goto (tgt := 70) C (zd tX12_together 61 rfl) (by decide) ?_
          refine z_sub (lo' := [some (zr 137), none, none, some (zi t25), some (zi t26)]) (zsub_s (zsub_n (zsub_n (zsub_s (zsub_s zsub_0))))) ?_
          exact ih v t25 t26 _ h hv Rt25 Rt26 K1
        · refine z_iconst C (zd tX12_together 55 rfl) ?_
          refine z_goto (tgt := 104) C (zd tX12_together 56 rfl) (by decide) ?_
          refine z_iadd C (zd tX12_together 58 rfl) ?_
          obtain ⟨t27, et27, Rt27, h⟩ := zn_some h
          refine z_n0 (congrArg zI et27.symm) ?_
          refine z_istore_n C (zd tX12_together 59 rfl) (by rw [hN]; decide) ?_
          obtain ⟨t28, et28, Rt28, h⟩ := zn_some h
          refine z_iincE C (zd tX12_together 60 rfl) (by rw [hN]; decide) rfl et28 ?_
          refine z_goto (tgt := 70) C (zd tX12_together 61 rfl) (by decide) ?_
          refine z_sub (lo' := [some (zr 137), none, none, some (zi t27), some (zi t28)]) (zsub_s (zsub_n (zsub_n (zsub_s (zsub_s zsub_0))))) ?_
          exact ih v t27 t28 _ h hv Rt27 Rt28 K1
set_option maxRecDepth 100000 in
set_option maxHeartbeats 4000000 in
theorem qX12_together (l : Launch) (D : va_G) (ids : Nat → ClassId) (b : Nat) {x1 : Int} (Rx1 : zR x1) {x2 : Int} (Rx2 : zR x2) {v v' : zHp} {r' : Int} (hv : zV 137 24 v) (h : fX12_together v x1 x2 = some (v', r')) : zCT l yX12_together vsX12_together rmX12_together D ids b 137 False 24 [zr 137, zi x1, zi x2] v 24 (zV 137 24 v' ∧ zR r') (some (zi r')) v' 0 0 := by
  refine zMet (own := RX12) (by decide +kernel) (show vsX12_together = _ from rfl) (Nat.le_of_ble_eq_true rfl) rfl ?_
  intro E hl hRm hD hids hb ho hz hN C hname ret
  subst hl hD hids hb
  unfold fX12_together at h
  refine z_aload_n C (zd tX12_together 0 rfl) rfl ?_
  refine z_iconst C (zd tX12_together 1 rfl) ?_
  obtain ⟨v1, ev1, h⟩ := zb_some h
  have hv1 : zV 137 24 v1 := by rw [ev1]; exact hv.st (zR_c 0 rfl) (lg_137 ho).1 (Or.inr rfl)
  refine pf_12_0 C (lg_137 ho) zic_12 (zm zwd_990) ev1 (zd tX12_together 2 rfl) ?_
  refine z_aload_n C (zd tX12_together 3 rfl) rfl ?_
  refine z_iload_n C (zd tX12_together 4 rfl) rfl ?_
  obtain ⟨v2, r3, cv2, h⟩ := zcl_some h
  refine zc_V C ho hz hRm (qX12_isWorker _ _ _ _ Rx1 hv1 cv2) (lg_137 ho) (by decide) rfl (zgV zwd_1211 zwd_1213 zws_52 zwd_13 zwd_1214) rfl pX12_isWorker rfl ⟨rfl, rfl⟩ ⟨Nat.le_of_ble_eq_true rfl, Nat.le_of_ble_eq_true rfl⟩ [] rfl (Nat.le_of_ble_eq_true rfl) (zd tX12_together 5 rfl) [zi r3] rfl (fun p4 => ?_)
  refine z_if_eq (tgt := 26) C p4.2 (zd tX12_together 6 rfl) (by decide) h (fun h => ?_) (fun h => ?_)
  · refine z_iconst C (zd tX12_together 14 rfl) ?_
    obtain ⟨rfl, rfl⟩ := zpi h
    exact ret.1 _ _ _ _ ⟨p4.1, (zR_c (-1) rfl)⟩ rfl rfl rfl (zd tX12_together 15 rfl)
  · refine z_aload_n C (zd tX12_together 7 rfl) rfl ?_
    refine z_iload_n C (zd tX12_together 8 rfl) rfl ?_
    obtain ⟨v5, r6, cv5, h⟩ := zcl_some h
    refine zc_V C ho hz hRm (qX12_isWorker _ _ _ _ Rx2 p4.1 cv5) (lg_137 ho) (by decide) rfl (zgV zwd_1211 zwd_1213 zws_52 zwd_13 zwd_1214) rfl pX12_isWorker rfl ⟨rfl, rfl⟩ ⟨Nat.le_of_ble_eq_true rfl, Nat.le_of_ble_eq_true rfl⟩ [] rfl (Nat.le_of_ble_eq_true rfl) (zd tX12_together 9 rfl) [zi r6] rfl (fun p7 => ?_)
    refine z_if_eq (tgt := 26) C p7.2 (zd tX12_together 10 rfl) (by decide) h (fun h => ?_) (fun h => ?_)
    · refine z_iconst C (zd tX12_together 14 rfl) ?_
      obtain ⟨rfl, rfl⟩ := zpi h
      exact ret.1 _ _ _ _ ⟨p7.1, (zR_c (-1) rfl)⟩ rfl rfl rfl (zd tX12_together 15 rfl)
    · refine z_iload_n C (zd tX12_together 11 rfl) rfl ?_
      refine z_iload_n C (zd tX12_together 12 rfl) rfl ?_
      refine z_icmp_ne (tgt := 28) C Rx1 Rx2 (zd tX12_together 13 rfl) (by decide) h (fun h => ?_) (fun h => ?_)
      · refine z_aload_n C (zd tX12_together 16 rfl) rfl ?_
        refine z_iload_n C (zd tX12_together 17 rfl) rfl ?_
        obtain ⟨v8, r9, cv8, h⟩ := zcl_some h
        refine zc_V C ho hz hRm (qX12_laysWorked _ _ _ _ Rx1 p7.1 cv8) (lg_137 ho) (by decide) rfl (zgV zwd_1267 zwd_1269 zws_61 zwd_13 zwd_1270) rfl pX12_laysWorked rfl ⟨rfl, rfl⟩ ⟨Nat.le_of_ble_eq_true rfl, Nat.le_of_ble_eq_true rfl⟩ [] rfl (Nat.le_of_ble_eq_true rfl) (zd tX12_together 18 rfl) [] rfl (fun p10 => ?_)
        refine z_iconst C (zd tX12_together 19 rfl) ?_
        refine z_istore_n C (zd tX12_together 20 rfl) (by rw [hN]; decide) ?_
        refine z_sub (lo' := [some (zr 137), none, some (zi x2), some (zi 0), none]) (zsub_s (zsub_n (zsub_s (zsub_s (zsub_n zsub_0))))) ?_
        obtain ⟨v16, w17, lv16, h⟩ := zl_some h
        refine bX12_together_L35 C hN ho hz hRm zFU v8 x2 0 _ lv16 p10 Rx2 (zR_c 0 rfl) (fun w1 q1 e1 hv16 Rw17 => ?_)
        obtain ⟨rfl, rfl⟩ := zpp e1
        refine z_aload_n C (zd tX12_together 34 rfl) rfl ?_
        refine z_iload_n C (zd tX12_together 35 rfl) rfl ?_
        obtain ⟨v18, r19, cv18, h⟩ := zcl_some h
        refine zc_V C ho hz hRm (qX12_laysWorked _ _ _ _ Rx2 hv16 cv18) (lg_137 ho) (by decide) rfl (zgV zwd_1267 zwd_1269 zws_61 zwd_13 zwd_1270) rfl pX12_laysWorked rfl ⟨rfl, rfl⟩ ⟨Nat.le_of_ble_eq_true rfl, Nat.le_of_ble_eq_true rfl⟩ [] rfl (Nat.le_of_ble_eq_true rfl) (zd tX12_together 36 rfl) [] rfl (fun p20 => ?_)
        refine z_iconst C (zd tX12_together 37 rfl) ?_
        refine z_istore_n C (zd tX12_together 38 rfl) (by rw [hN]; decide) ?_
        refine z_iconst C (zd tX12_together 39 rfl) ?_
        refine z_istore C (zd tX12_together 40 rfl) (by rw [hN]; decide) ?_
        refine z_sub (lo' := [some (zr 137), none, none, some (zi 0), some (zi 0)]) (zsub_s (zsub_n (zsub_n (zsub_s (zsub_s zsub_0))))) ?_
        obtain ⟨v29, w30, lv29, h⟩ := zl_some h
        refine bX12_together_L70 C hN ho hz hRm zFU v18 0 0 _ lv29 p20 (zR_c 0 rfl) (zR_c 0 rfl) (fun w1 q1 e1 hv29 Rw30 => ?_)
        obtain ⟨rfl, rfl⟩ := zpp e1
        refine z_iload_n C (zd tX12_together 62 rfl) rfl ?_
        obtain ⟨rfl, rfl⟩ := zpi h
        exact ret.1 _ _ _ _ ⟨hv29, Rw30⟩ rfl rfl rfl (zd tX12_together 63 rfl)
      · refine z_iconst C (zd tX12_together 14 rfl) ?_
        obtain ⟨rfl, rfl⟩ := zpi h
        exact ret.1 _ _ _ _ ⟨p7.1, (zR_c (-1) rfl)⟩ rfl rfl rfl (zd tX12_together 15 rfl)
noncomputable def vsX12_total : List Cond := .code yX12_total cX12_total 1 (some .int) :: zbig
abbrev rmX12_total : Room := { frames := 7, cells := 0, slots := 0, locals := 162 }
theorem pX12_total : yX12_total.cls = RX12 ∧ yX12_total.cls ≠ "java/lang/invoke/MethodHandle" ∧ yX12_total.cls ≠ "java/lang/invoke/VarHandle" ∧ (parseMethodDescriptor yX12_total.desc).map (fun d => d.parameters.length) = some 0 := by decide +kernel
set_option maxRecDepth 100000 in
set_option maxHeartbeats 4000000 in
theorem qX12_total (l : Launch) (D : va_G) (ids : Nat → ClassId) (b : Nat)  {v v' : zHp} {r' : Int} (hv : zV 137 24 v) (h : fX12_total v = some (v', r')) : zCT l yX12_total vsX12_total rmX12_total D ids b 137 False 24 [zr 137] v 24 (zV 137 24 v' ∧ zR r') (some (zi r')) v' 0 0 := by
  refine zMet (own := RX12) (by decide +kernel) (show vsX12_total = _ from rfl) (Nat.le_of_ble_eq_true rfl) rfl ?_
  intro E hl hRm hD hids hb ho hz hN C hname ret
  subst hl hD hids hb
  unfold fX12_total at h
  refine z_aload_n C (zd tX12_total 0 rfl) rfl ?_
  refine z_iconst C (zd tX12_total 1 rfl) ?_
  obtain ⟨v1, ev1, h⟩ := zb_some h
  have hv1 : zV 137 24 v1 := by rw [ev1]; exact hv.st (zR_c 0 rfl) (lg_137 ho).1 (Or.inr rfl)
  refine pf_12_0 C (lg_137 ho) zic_12 (zm zwd_990) ev1 (zd tX12_total 2 rfl) ?_
  refine z_aload_n C (zd tX12_total 3 rfl) rfl ?_
  obtain ⟨v2, r3, cv2, h⟩ := zcl_some h
  refine zc_V C ho hz hRm (qX12_allPay _ _ _ _ hv1 cv2) (lg_137 ho) (by decide) rfl (zgV zwd_1363 zwd_1365 zws_79 zwd_13 zwd_1366) rfl pX12_allPay rfl ⟨rfl, rfl⟩ ⟨Nat.le_of_ble_eq_true rfl, Nat.le_of_ble_eq_true rfl⟩ [] rfl (Nat.le_of_ble_eq_true rfl) (zd tX12_total 4 rfl) [zi r3] rfl (fun p4 => ?_)
  obtain ⟨rfl, rfl⟩ := zpi h
  exact ret.1 _ _ _ _ ⟨p4.1, p4.2⟩ rfl rfl rfl (zd tX12_total 5 rfl)
noncomputable def vsX12_undo : List Cond := .code yX12_undo cX12_undo 2 (some .int) :: zbig
abbrev rmX12_undo : Room := { frames := 1, cells := 0, slots := 0, locals := 24 }
theorem pX12_undo : yX12_undo.cls = RX12 ∧ yX12_undo.cls ≠ "java/lang/invoke/MethodHandle" ∧ yX12_undo.cls ≠ "java/lang/invoke/VarHandle" ∧ (parseMethodDescriptor yX12_undo.desc).map (fun d => d.parameters.length) = some 0 := by decide +kernel
set_option maxRecDepth 100000 in
set_option maxHeartbeats 4000000 in
theorem qX12_undo (l : Launch) (D : va_G) (ids : Nat → ClassId) (b : Nat)  {v v' : zHp} {r' : Int} (hv : zV 137 24 v) (h : fX12_undo v = some (v', r')) : zCT l yX12_undo vsX12_undo rmX12_undo D ids b 137 False 24 [zr 137] v 24 (zV 137 24 v' ∧ zR r') (some (zi r')) v' 0 0 := by
  refine zMet (own := RX12) (by decide +kernel) (show vsX12_undo = _ from rfl) (Nat.le_of_ble_eq_true rfl) rfl ?_
  intro E hl hRm hD hids hb ho hz hN C hname ret
  subst hl hD hids hb
  unfold fX12_undo at h
  refine z_aload_n C (zd tX12_undo 0 rfl) rfl ?_
  refine z_iconst C (zd tX12_undo 1 rfl) ?_
  obtain ⟨v1, ev1, h⟩ := zb_some h
  have hv1 : zV 137 24 v1 := by rw [ev1]; exact hv.st (zR_c 0 rfl) (lg_137 ho).1 (Or.inr rfl)
  refine pf_12_0 C (lg_137 ho) zic_12 (zm zwd_990) ev1 (zd tX12_undo 2 rfl) ?_
  refine z_aload_n C (zd tX12_undo 3 rfl) rfl ?_
  refine gf_12_16 C (lg_137 ho) zic_12 (zm zwd_1006) (zd tX12_undo 4 rfl) ?_
  refine z_if_ne (tgt := 14) C (hv1.1 _ _) (zd tX12_undo 5 rfl) (by decide) h (fun h => ?_) (fun h => ?_)
  · refine z_aload_n C (zd tX12_undo 8 rfl) rfl ?_
    refine z_dup C (zd tX12_undo 9 rfl) ?_
    refine gf_12_16 C (lg_137 ho) zic_12 (zm zwd_1006) (zd tX12_undo 10 rfl) ?_
    refine z_iconst C (zd tX12_undo 11 rfl) ?_
    refine z_isub C (zd tX12_undo 12 rfl) ?_
    obtain ⟨t2, et2, Rt2, h⟩ := zn_some h
    refine z_n0 (congrArg zI et2.symm) ?_
    obtain ⟨v3, ev3, h⟩ := zb_some h
    have hv3 : zV 137 24 v3 := by rw [ev3]; exact hv1.st Rt2 (lg_137 ho).1 (Or.inr rfl)
    refine pf_12_16 C (lg_137 ho) zic_12 (zm zwd_1006) ev3 (zd tX12_undo 13 rfl) ?_
    refine z_iconst C (zd tX12_undo 14 rfl) ?_
    refine z_aload_n C (zd tX12_undo 15 rfl) rfl ?_
    refine gf_12_16 C (lg_137 ho) zic_12 (zm zwd_1006) (zd tX12_undo 16 rfl) ?_
    refine z_imul C (zd tX12_undo 17 rfl) ?_
    obtain ⟨t4, et4, Rt4, h⟩ := zn_some h
    refine z_n0 (congrArg zI et4.symm) ?_
    refine z_istore_n C (zd tX12_undo 18 rfl) (by rw [hN]; decide) ?_
    refine z_aload_n C (zd tX12_undo 19 rfl) rfl ?_
    refine gl_12_17 (t := 144) C (lg_137 ho) zic_12 (zm zwd_1007) (vl_12_17 ho hv3 (lg_137 ho)) (zd tX12_undo 20 rfl) ?_
    refine z_iload_n C (zd tX12_undo 21 rfl) rfl ?_
    obtain ⟨q5, h⟩ := zck_some h
    refine za_iald C (lg_144 ho) rfl (by decide) q5 (zd tX12_undo 22 rfl) ?_
    refine z_if_ne (tgt := 63) C (hv3.1 _ _) (zd tX12_undo 23 rfl) (by decide) h (fun h => ?_) (fun h => ?_)
    · refine z_aload_n C (zd tX12_undo 39 rfl) rfl ?_
      refine z_aload_n C (zd tX12_undo 40 rfl) rfl ?_
      refine gl_12_17 (t := 144) C (lg_137 ho) zic_12 (zm zwd_1007) (vl_12_17 ho hv3 (lg_137 ho)) (zd tX12_undo 41 rfl) ?_
      refine z_iload_n C (zd tX12_undo 42 rfl) rfl ?_
      refine z_iconst C (zd tX12_undo 43 rfl) ?_
      refine z_iadd C (zd tX12_undo 44 rfl) ?_
      obtain ⟨q6, h⟩ := zck_some h
      refine za_iald C (lg_144 ho) rfl (by decide) q6 (zd tX12_undo 45 rfl) ?_
      refine z_aload_n C (zd tX12_undo 46 rfl) rfl ?_
      refine gl_12_17 (t := 144) C (lg_137 ho) zic_12 (zm zwd_1007) (vl_12_17 ho hv3 (lg_137 ho)) (zd tX12_undo 47 rfl) ?_
      refine z_iload_n C (zd tX12_undo 48 rfl) rfl ?_
      refine z_iconst C (zd tX12_undo 49 rfl) ?_
      refine z_iadd C (zd tX12_undo 50 rfl) ?_
      obtain ⟨q7, h⟩ := zck_some h
      refine za_iald C (lg_144 ho) rfl (by decide) q7 (zd tX12_undo 51 rfl) ?_
      refine z_aload_n C (zd tX12_undo 52 rfl) rfl ?_
      refine gl_12_17 (t := 144) C (lg_137 ho) zic_12 (zm zwd_1007) (vl_12_17 ho hv3 (lg_137 ho)) (zd tX12_undo 53 rfl) ?_
      refine z_iload_n C (zd tX12_undo 54 rfl) rfl ?_
      refine z_iconst C (zd tX12_undo 55 rfl) ?_
      refine z_iadd C (zd tX12_undo 56 rfl) ?_
      obtain ⟨q8, h⟩ := zck_some h
      refine za_iald C (lg_144 ho) rfl (by decide) q8 (zd tX12_undo 57 rfl) ?_
      obtain ⟨v9, r10, cv9, h⟩ := zcl_some h
      refine zc_V C ho hz hRm (qX12_comes _ _ _ _ (hv3.1 _ _) (hv3.1 _ _) (hv3.1 _ _) hv3 cv9) (lg_137 ho) (by decide) rfl (zgV zwd_1219 zwd_1221 zws_54 zwd_13 zwd_1222) rfl pX12_comes rfl ⟨rfl, rfl⟩ ⟨Nat.le_of_ble_eq_true rfl, Nat.le_of_ble_eq_true rfl⟩ [] rfl (Nat.le_of_ble_eq_true rfl) (zd tX12_undo 58 rfl) [] rfl (fun p11 => ?_)
      refine z_aload_n C (zd tX12_undo 59 rfl) rfl ?_
      refine gf_12_16 C (lg_137 ho) zic_12 (zm zwd_1006) (zd tX12_undo 60 rfl) ?_
      obtain ⟨rfl, rfl⟩ := zpi h
      exact ret.1 _ _ _ _ ⟨p11, (p11.1 _ _)⟩ rfl rfl rfl (zd tX12_undo 61 rfl)
    · refine z_aload_n C (zd tX12_undo 24 rfl) rfl ?_
      refine z_aload_n C (zd tX12_undo 25 rfl) rfl ?_
      refine gl_12_17 (t := 144) C (lg_137 ho) zic_12 (zm zwd_1007) (vl_12_17 ho hv3 (lg_137 ho)) (zd tX12_undo 26 rfl) ?_
      refine z_iload_n C (zd tX12_undo 27 rfl) rfl ?_
      refine z_iconst C (zd tX12_undo 28 rfl) ?_
      refine z_iadd C (zd tX12_undo 29 rfl) ?_
      obtain ⟨q12, h⟩ := zck_some h
      refine za_iald C (lg_144 ho) rfl (by decide) q12 (zd tX12_undo 30 rfl) ?_
      refine z_aload_n C (zd tX12_undo 31 rfl) rfl ?_
      refine gl_12_17 (t := 144) C (lg_137 ho) zic_12 (zm zwd_1007) (vl_12_17 ho hv3 (lg_137 ho)) (zd tX12_undo 32 rfl) ?_
      refine z_iload_n C (zd tX12_undo 33 rfl) rfl ?_
      refine z_iconst C (zd tX12_undo 34 rfl) ?_
      refine z_iadd C (zd tX12_undo 35 rfl) ?_
      obtain ⟨q13, h⟩ := zck_some h
      refine za_iald C (lg_144 ho) rfl (by decide) q13 (zd tX12_undo 36 rfl) ?_
      obtain ⟨v14, r15, cv14, h⟩ := zcl_some h
      refine zc_V C ho hz hRm (qX12_leaves _ _ _ _ (hv3.1 _ _) (hv3.1 _ _) hv3 cv14) (lg_137 ho) (by decide) rfl (zgV zwd_1231 zwd_1233 zws_56 zwd_13 zwd_1234) rfl pX12_leaves rfl ⟨rfl, rfl⟩ ⟨Nat.le_of_ble_eq_true rfl, Nat.le_of_ble_eq_true rfl⟩ [] rfl (Nat.le_of_ble_eq_true rfl) (zd tX12_undo 37 rfl) [] rfl (fun p16 => ?_)
      refine z_goto (tgt := 91) C (zd tX12_undo 38 rfl) (by decide) ?_
      refine z_aload_n C (zd tX12_undo 59 rfl) rfl ?_
      refine gf_12_16 C (lg_137 ho) zic_12 (zm zwd_1006) (zd tX12_undo 60 rfl) ?_
      obtain ⟨rfl, rfl⟩ := zpi h
      exact ret.1 _ _ _ _ ⟨p16, (p16.1 _ _)⟩ rfl rfl rfl (zd tX12_undo 61 rfl)
  · refine z_iconst C (zd tX12_undo 6 rfl) ?_
    obtain ⟨rfl, rfl⟩ := zpi h
    exact ret.1 _ _ _ _ ⟨hv1, (zR_c (-1) rfl)⟩ rfl rfl rfl (zd tX12_undo 7 rfl)
noncomputable def vsX12_week : List Cond := .code yX12_week cX12_week 6 (some .int) :: zbig
abbrev rmX12_week : Room := { frames := 6, cells := 0, slots := 0, locals := 139 }
theorem pX12_week : yX12_week.cls = RX12 ∧ yX12_week.cls ≠ "java/lang/invoke/MethodHandle" ∧ yX12_week.cls ≠ "java/lang/invoke/VarHandle" ∧ (parseMethodDescriptor yX12_week.desc).map (fun d => d.parameters.length) = some 3 := by decide +kernel
set_option maxRecDepth 100000 in
set_option maxHeartbeats 4000000 in
theorem bX12_week_L43 {E : zE} (C : zC E 24 cX12_week RX12 vsX12_week) (hN : zEN E = 6) (ho : zEo E = 137) (hz : zEz E = False) (hRm : zER E = rmX12_week) : ∀ (fu : Nat) (v : zHp) (x3 : Int) (x4 : Int) (x5 : Int) (res : (zHp × (Int))), fX12_week_L43 fu v x3 x4 x5 = some res → zV 137 24 v → zR x3 → zR x4 → zR x5 → (∀ (w : zHp) (q : Int), res = (w, q) → zV 137 24 w → zR q → zX E 0 0 24 w 78 [none, none, none, none, some (zi q), none] []) → zX E 0 0 24 v 43 [some (zr 137), none, none, some (zi x3), some (zi x4), some (zi x5)] [] := by
  intro fu
  induction fu with
  | zero =>
    intro v _ _ _ res h
    cases h
  | succ fu ih =>
    intro v x3 x4 x5 res h hv Rx3 Rx4 Rx5 K1
    rw [fX12_week_L43.eq_2] at h
    refine z_iload C (zd tX12_week 25 rfl) rfl ?_
    refine z_aload_n C (zd tX12_week 26 rfl) rfl ?_
    refine gf_12_23 C (lg_137 ho) zic_12 (zm zwd_1013) (zd tX12_week 27 rfl) ?_
    refine z_icmp_ge (tgt := 78) C Rx5 (hv.1 _ _) (zd tX12_week 28 rfl) (by decide) h (fun h => ?_) (fun h => ?_)
    · refine z_sub (lo' := [none, none, none, none, some (zi x4), none]) (zsub_n (zsub_n (zsub_n (zsub_n (zsub_s (zsub_n zsub_0)))))) ?_
      exact K1 _ _ (Option.some.inj h).symm hv Rx4
    · refine z_iload C (zd tX12_week 29 rfl) rfl ?_
      refine z_aload_n C (zd tX12_week 30 rfl) rfl ?_
      refine z_iload C (zd tX12_week 31 rfl) rfl ?_
      refine z_iload_n C (zd tX12_week 32 rfl) rfl ?_
      obtain ⟨v14, r15, cv14, h⟩ := zcl_some h
      refine zc_V C ho hz hRm (qX12_isOf _ _ _ _ Rx5 Rx3 hv cv14) (lg_137 ho) (by decide) rfl (zgV zwd_1331 zwd_1333 zws_76 zwd_13 zwd_1334) rfl pX12_isOf rfl ⟨rfl, rfl⟩ ⟨Nat.le_of_ble_eq_true rfl, Nat.le_of_ble_eq_true rfl⟩ [zi x4] rfl (Nat.le_of_ble_eq_true rfl) (zd tX12_week 33 rfl) [zi r15, zi x4] rfl (fun p16 => ?_)
      refine z_if_eq (tgt := 68) C p16.2 (zd tX12_week 34 rfl) (by decide) h (fun h => ?_) (fun h => ?_)
      · refine z_iconst C (zd tX12_week 37 rfl) ?_
        refine z_iadd C (zd tX12_week 38 rfl) ?_
        obtain ⟨t17, et17, Rt17, h⟩ := zn_some h
        refine z_n0 (congrArg zI et17.symm) ?_
        refine z_istore C (zd tX12_week 39 rfl) (by rw [hN]; decide) ?_
        obtain ⟨t18, et18, Rt18, h⟩ := zn_some h
        refine z_iincE C (zd tX12_week 40 rfl) (by rw [hN]; decide) rfl et18 ?_
        refine z_goto (tgt := 43) C (zd tX12_week 41 rfl) (by decide) ?_
        refine z_sub (lo' := [some (zr 137), none, none, some (zi x3), some (zi t17), some (zi t18)]) (zsub_s (zsub_n (zsub_n (zsub_s (zsub_s (zsub_s zsub_0)))))) ?_
        exact ih v14 x3 t17 t18 _ h p16.1 Rx3 Rt17 Rt18 K1
      · refine z_iconst C (zd tX12_week 35 rfl) ?_
        refine z_goto (tgt := 69) C (zd tX12_week 36 rfl) (by decide) ?_
        refine z_iadd C (zd tX12_week 38 rfl) ?_
        obtain ⟨t19, et19, Rt19, h⟩ := zn_some h
        refine z_n0 (congrArg zI et19.symm) ?_
        refine z_istore C (zd tX12_week 39 rfl) (by rw [hN]; decide) ?_
        obtain ⟨t20, et20, Rt20, h⟩ := zn_some h
        refine z_iincE C (zd tX12_week 40 rfl) (by rw [hN]; decide) rfl et20 ?_
        refine z_goto (tgt := 43) C (zd tX12_week 41 rfl) (by decide) ?_
        refine z_sub (lo' := [some (zr 137), none, none, some (zi x3), some (zi t19), some (zi t20)]) (zsub_s (zsub_n (zsub_n (zsub_s (zsub_s (zsub_s zsub_0)))))) ?_
        exact ih v14 x3 t19 t20 _ h p16.1 Rx3 Rt19 Rt20 K1
set_option maxRecDepth 100000 in
set_option maxHeartbeats 4000000 in
theorem qX12_week (l : Launch) (D : va_G) (ids : Nat → ClassId) (b : Nat) {x1 : Int} (Rx1 : zR x1) {x2 : Int} (Rx2 : zR x2) {x3 : Int} (Rx3 : zR x3) {v v' : zHp} {r' : Int} (hv : zV 137 24 v) (h : fX12_week v x1 x2 x3 = some (v', r')) : zCT l yX12_week vsX12_week rmX12_week D ids b 137 False 24 [zr 137, zi x1, zi x2, zi x3] v 24 (zV 137 24 v' ∧ zR r') (some (zi r')) v' 0 0 := by
  refine zMet (own := RX12) (by decide +kernel) (show vsX12_week = _ from rfl) (Nat.le_of_ble_eq_true rfl) rfl ?_
  intro E hl hRm hD hids hb ho hz hN C hname ret
  subst hl hD hids hb
  unfold fX12_week at h
  refine z_aload_n C (zd tX12_week 0 rfl) rfl ?_
  refine z_iconst C (zd tX12_week 1 rfl) ?_
  obtain ⟨v1, ev1, h⟩ := zb_some h
  have hv1 : zV 137 24 v1 := by rw [ev1]; exact hv.st (zR_c 0 rfl) (lg_137 ho).1 (Or.inr rfl)
  refine pf_12_0 C (lg_137 ho) zic_12 (zm zwd_990) ev1 (zd tX12_week 2 rfl) ?_
  refine z_aload_n C (zd tX12_week 3 rfl) rfl ?_
  refine z_iload_n C (zd tX12_week 4 rfl) rfl ?_
  obtain ⟨v2, r3, cv2, h⟩ := zcl_some h
  refine zc_V C ho hz hRm (qX12_isWorker _ _ _ _ Rx1 hv1 cv2) (lg_137 ho) (by decide) rfl (zgV zwd_1211 zwd_1213 zws_52 zwd_13 zwd_1214) rfl pX12_isWorker rfl ⟨rfl, rfl⟩ ⟨Nat.le_of_ble_eq_true rfl, Nat.le_of_ble_eq_true rfl⟩ [] rfl (Nat.le_of_ble_eq_true rfl) (zd tX12_week 5 rfl) [zi r3] rfl (fun p4 => ?_)
  refine z_if_eq (tgt := 29) C p4.2 (zd tX12_week 6 rfl) (by decide) h (fun h => ?_) (fun h => ?_)
  · refine z_iconst C (zd tX12_week 15 rfl) ?_
    obtain ⟨rfl, rfl⟩ := zpi h
    exact ret.1 _ _ _ _ ⟨p4.1, (zR_c (-1) rfl)⟩ rfl rfl rfl (zd tX12_week 16 rfl)
  · refine z_aload_n C (zd tX12_week 7 rfl) rfl ?_
    refine z_iload_n C (zd tX12_week 8 rfl) rfl ?_
    obtain ⟨v5, r6, cv5, h⟩ := zcl_some h
    refine zc_V C ho hz hRm (qX12_isWeek _ _ _ _ Rx2 p4.1 cv5) (lg_137 ho) (by decide) rfl (zgV zwd_1339 zwd_1341 zws_77 zwd_13 zwd_1342) rfl pX12_isWeek rfl ⟨rfl, rfl⟩ ⟨Nat.le_of_ble_eq_true rfl, Nat.le_of_ble_eq_true rfl⟩ [] rfl (Nat.le_of_ble_eq_true rfl) (zd tX12_week 9 rfl) [zi r6] rfl (fun p7 => ?_)
    refine z_if_eq (tgt := 29) C p7.2 (zd tX12_week 10 rfl) (by decide) h (fun h => ?_) (fun h => ?_)
    · refine z_iconst C (zd tX12_week 15 rfl) ?_
      obtain ⟨rfl, rfl⟩ := zpi h
      exact ret.1 _ _ _ _ ⟨p7.1, (zR_c (-1) rfl)⟩ rfl rfl rfl (zd tX12_week 16 rfl)
    · refine z_aload_n C (zd tX12_week 11 rfl) rfl ?_
      refine z_iload_n C (zd tX12_week 12 rfl) rfl ?_
      obtain ⟨v8, r9, cv8, h⟩ := zcl_some h
      refine zc_V C ho hz hRm (qX12_isAsked _ _ _ _ Rx3 p7.1 cv8) (lg_137 ho) (by decide) rfl (zgV zwd_1327 zwd_1329 zws_75 zwd_13 zwd_1330) rfl pX12_isAsked rfl ⟨rfl, rfl⟩ ⟨Nat.le_of_ble_eq_true rfl, Nat.le_of_ble_eq_true rfl⟩ [] rfl (Nat.le_of_ble_eq_true rfl) (zd tX12_week 13 rfl) [zi r9] rfl (fun p10 => ?_)
      refine z_if_ne (tgt := 31) C p10.2 (zd tX12_week 14 rfl) (by decide) h (fun h => ?_) (fun h => ?_)
      · refine z_aload_n C (zd tX12_week 17 rfl) rfl ?_
        refine z_iload_n C (zd tX12_week 18 rfl) rfl ?_
        refine z_iload_n C (zd tX12_week 19 rfl) rfl ?_
        obtain ⟨v11, r12, cv11, h⟩ := zcl_some h
        refine zc_V C ho hz hRm (qX12_laysWeek _ _ _ _ Rx1 Rx2 p10.1 cv11) (lg_137 ho) (by decide) rfl (zgV zwd_1275 zwd_1277 zws_63 zwd_13 zwd_1278) rfl pX12_laysWeek rfl ⟨rfl, rfl⟩ ⟨Nat.le_of_ble_eq_true rfl, Nat.le_of_ble_eq_true rfl⟩ [] rfl (Nat.le_of_ble_eq_true rfl) (zd tX12_week 20 rfl) [] rfl (fun p13 => ?_)
        refine z_iconst C (zd tX12_week 21 rfl) ?_
        refine z_istore C (zd tX12_week 22 rfl) (by rw [hN]; decide) ?_
        refine z_iconst C (zd tX12_week 23 rfl) ?_
        refine z_istore C (zd tX12_week 24 rfl) (by rw [hN]; decide) ?_
        refine z_sub (lo' := [some (zr 137), none, none, some (zi x3), some (zi 0), some (zi 0)]) (zsub_s (zsub_n (zsub_n (zsub_s (zsub_s (zsub_s zsub_0)))))) ?_
        obtain ⟨v21, w22, lv21, h⟩ := zl_some h
        refine bX12_week_L43 C hN ho hz hRm zFU v11 x3 0 0 _ lv21 p13 Rx3 (zR_c 0 rfl) (zR_c 0 rfl) (fun w1 q1 e1 hv21 Rw22 => ?_)
        obtain ⟨rfl, rfl⟩ := zpp e1
        refine z_iload C (zd tX12_week 42 rfl) rfl ?_
        obtain ⟨rfl, rfl⟩ := zpi h
        exact ret.1 _ _ _ _ ⟨hv21, Rw22⟩ rfl rfl rfl (zd tX12_week 43 rfl)
      · refine z_iconst C (zd tX12_week 15 rfl) ?_
        obtain ⟨rfl, rfl⟩ := zpi h
        exact ret.1 _ _ _ _ ⟨p10.1, (zR_c (-1) rfl)⟩ rfl rfl rfl (zd tX12_week 16 rfl)
noncomputable def vsX12_worth : List Cond := .code yX12_worth cX12_worth 4 (some .int) :: zbig
abbrev rmX12_worth : Room := { frames := 7, cells := 0, slots := 0, locals := 162 }
theorem pX12_worth : yX12_worth.cls = RX12 ∧ yX12_worth.cls ≠ "java/lang/invoke/MethodHandle" ∧ yX12_worth.cls ≠ "java/lang/invoke/VarHandle" ∧ (parseMethodDescriptor yX12_worth.desc).map (fun d => d.parameters.length) = some 1 := by decide +kernel
set_option maxRecDepth 100000 in
set_option maxHeartbeats 4000000 in
theorem bX12_worth_L28 {E : zE} (C : zC E 24 cX12_worth RX12 vsX12_worth) (hN : zEN E = 4) (ho : zEo E = 137) (hz : zEz E = False) (hRm : zER E = rmX12_worth) : ∀ (fu : Nat) (v : zHp) (x1 : Int) (x2 : Int) (x3 : Int) (res : (zHp × (Int))), fX12_worth_L28 fu v x1 x2 x3 = some res → zV 137 24 v → zR x1 → zR x2 → zR x3 → (∀ (w : zHp) (q : Int), res = (w, q) → zV 137 24 w → True → zX E 0 0 24 w 52 [some (zr 137), some (zi x1), some (zi x2), none] []) → zX E 0 0 24 v 28 [some (zr 137), some (zi x1), some (zi x2), some (zi x3)] [] := by
  intro fu
  induction fu with
  | zero =>
    intro v _ _ _ res h
    cases h
  | succ fu ih =>
    intro v x1 x2 x3 res h hv Rx1 Rx2 Rx3 K1
    rw [fX12_worth_L28.eq_2] at h
    refine z_iload_n C (zd tX12_worth 18 rfl) rfl ?_
    refine z_bipush C (by decide) (zd tX12_worth 19 rfl) ?_
    refine z_icmp_ge (tgt := 52) C Rx3 (zR_c 51 rfl) (zd tX12_worth 20 rfl) (by decide) h (fun h => ?_) (fun h => ?_)
    · refine z_sub (lo' := [some (zr 137), some (zi x1), some (zi x2), none]) (zsub_s (zsub_s (zsub_s (zsub_n zsub_0)))) ?_
      exact K1 _ _ (Option.some.inj h).symm hv trivial
    · refine z_aload_n C (zd tX12_worth 21 rfl) rfl ?_
      refine gl_12_11 (t := 140) C (lg_137 ho) zic_12 (zm zwd_1001) (vl_12_11 ho hv (lg_137 ho)) (zd tX12_worth 22 rfl) ?_
      refine z_iload_n C (zd tX12_worth 23 rfl) rfl ?_
      refine z_aload_n C (zd tX12_worth 24 rfl) rfl ?_
      refine gl_12_10 (t := 139) C (lg_137 ho) zic_12 (zm zwd_1000) (vl_12_10 ho hv (lg_137 ho)) (zd tX12_worth 25 rfl) ?_
      refine z_iload_n C (zd tX12_worth 26 rfl) rfl ?_
      obtain ⟨q12, h⟩ := zck_some h
      refine za_iald C (lg_139 ho) rfl (by decide) q12 (zd tX12_worth 27 rfl) ?_
      obtain ⟨q13, h⟩ := zck_some h
      obtain ⟨v14, ev14, h⟩ := zb_some h
      have hv14 : zV 137 24 v14 := by rw [ev14]; exact hv.st (hv.1 _ _) (lg_140 ho).1 (Or.inr rfl)
      refine za_iast C (lg_140 ho) rfl (by decide) q13 ev14 (zd tX12_worth 28 rfl) ?_
      obtain ⟨t15, et15, Rt15, h⟩ := zn_some h
      refine z_iincE C (zd tX12_worth 29 rfl) (by rw [hN]; decide) rfl et15 ?_
      refine z_goto (tgt := 28) C (zd tX12_worth 30 rfl) (by decide) ?_
      refine z_sub (lo' := [some (zr 137), some (zi x1), some (zi x2), some (zi t15)]) (zsub_s (zsub_s (zsub_s (zsub_s zsub_0)))) ?_
      exact ih v14 x1 x2 t15 _ h hv14 Rx1 Rx2 Rt15 K1
set_option maxRecDepth 100000 in
set_option maxHeartbeats 4000000 in
theorem bX12_worth_L59 {E : zE} (C : zC E 24 cX12_worth RX12 vsX12_worth) (hN : zEN E = 4) (ho : zEo E = 137) (hz : zEz E = False) (hRm : zER E = rmX12_worth) : ∀ (fu : Nat) (v : zHp) (x2 : Int) (x3 : Int) (res : (zHp × (Int))), fX12_worth_L59 fu v x2 x3 = some res → zV 137 24 v → zR x2 → zR x3 → (∀ (w : zHp) (q : Int), res = (w, q) → zV 137 24 w → True → zX E 0 0 24 w 87 [some (zr 137), none, some (zi x2), none] []) → zX E 0 0 24 v 59 [some (zr 137), none, some (zi x2), some (zi x3)] [] := by
  intro fu
  induction fu with
  | zero =>
    intro v _ _ res h
    cases h
  | succ fu ih =>
    intro v x2 x3 res h hv Rx2 Rx3 K1
    rw [fX12_worth_L59.eq_2] at h
    refine z_iload_n C (zd tX12_worth 37 rfl) rfl ?_
    refine z_iconst C (zd tX12_worth 38 rfl) ?_
    refine z_iadd C (zd tX12_worth 39 rfl) ?_
    refine z_bipush C (by decide) (zd tX12_worth 40 rfl) ?_
    obtain ⟨t19, et19, Rt19, h⟩ := zn_some h
    refine z_n1 (congrArg zI et19.symm) ?_
    refine z_icmp_ge (tgt := 87) C Rt19 (zR_c 51 rfl) (zd tX12_worth 41 rfl) (by decide) h (fun h => ?_) (fun h => ?_)
    · refine z_sub (lo' := [some (zr 137), none, some (zi x2), none]) (zsub_s (zsub_n (zsub_s (zsub_n zsub_0)))) ?_
      exact K1 _ _ (Option.some.inj h).symm hv trivial
    · refine z_aload_n C (zd tX12_worth 42 rfl) rfl ?_
      refine gl_12_10 (t := 139) C (lg_137 ho) zic_12 (zm zwd_1000) (vl_12_10 ho hv (lg_137 ho)) (zd tX12_worth 43 rfl) ?_
      refine z_iload_n C (zd tX12_worth 44 rfl) rfl ?_
      refine z_aload_n C (zd tX12_worth 45 rfl) rfl ?_
      refine gl_12_10 (t := 139) C (lg_137 ho) zic_12 (zm zwd_1000) (vl_12_10 ho hv (lg_137 ho)) (zd tX12_worth 46 rfl) ?_
      refine z_iload_n C (zd tX12_worth 47 rfl) rfl ?_
      refine z_iconst C (zd tX12_worth 48 rfl) ?_
      refine z_iadd C (zd tX12_worth 49 rfl) ?_
      obtain ⟨q20, h⟩ := zck_some h
      refine za_iald C (lg_139 ho) rfl (by decide) q20 (zd tX12_worth 50 rfl) ?_
      obtain ⟨q21, h⟩ := zck_some h
      obtain ⟨v22, ev22, h⟩ := zb_some h
      have hv22 : zV 137 24 v22 := by rw [ev22]; exact hv.st (hv.1 _ _) (lg_139 ho).1 (Or.inr rfl)
      refine za_iast C (lg_139 ho) rfl (by decide) q21 ev22 (zd tX12_worth 51 rfl) ?_
      obtain ⟨t23, et23, Rt23, h⟩ := zn_some h
      refine z_iincE C (zd tX12_worth 52 rfl) (by rw [hN]; decide) rfl et23 ?_
      refine z_goto (tgt := 59) C (zd tX12_worth 53 rfl) (by decide) ?_
      refine z_sub (lo' := [some (zr 137), none, some (zi x2), some (zi t23)]) (zsub_s (zsub_n (zsub_s (zsub_s zsub_0)))) ?_
      exact ih v22 x2 t23 _ h hv22 Rx2 Rt23 K1
set_option maxRecDepth 100000 in
set_option maxHeartbeats 4000000 in
theorem qX12_worth (l : Launch) (D : va_G) (ids : Nat → ClassId) (b : Nat) {x1 : Int} (Rx1 : zR x1) {v v' : zHp} {r' : Int} (hv : zV 137 24 v) (h : fX12_worth v x1 = some (v', r')) : zCT l yX12_worth vsX12_worth rmX12_worth D ids b 137 False 24 [zr 137, zi x1] v 24 (zV 137 24 v' ∧ zR r') (some (zi r')) v' 0 0 := by
  refine zMet (own := RX12) (by decide +kernel) (show vsX12_worth = _ from rfl) (Nat.le_of_ble_eq_true rfl) rfl ?_
  intro E hl hRm hD hids hb ho hz hN C hname ret
  subst hl hD hids hb
  unfold fX12_worth at h
  refine z_aload_n C (zd tX12_worth 0 rfl) rfl ?_
  refine z_iconst C (zd tX12_worth 1 rfl) ?_
  obtain ⟨v1, ev1, h⟩ := zb_some h
  have hv1 : zV 137 24 v1 := by rw [ev1]; exact hv.st (zR_c 0 rfl) (lg_137 ho).1 (Or.inr rfl)
  refine pf_12_0 C (lg_137 ho) zic_12 (zm zwd_990) ev1 (zd tX12_worth 2 rfl) ?_
  refine z_iload_n C (zd tX12_worth 3 rfl) rfl ?_
  refine z_iconst C (zd tX12_worth 4 rfl) ?_
  refine z_aload_n C (zd tX12_worth 5 rfl) rfl ?_
  obtain ⟨v2, r3, cv2, h⟩ := zcl_some h
  refine zc_V C ho hz hRm (qX12_premiums _ _ _ _ hv1 cv2) (lg_137 ho) (by decide) rfl (zgV zwd_1173 zwd_1175 zws_46 zwd_13 zwd_1176) rfl pX12_premiums rfl ⟨rfl, rfl⟩ ⟨Nat.le_of_ble_eq_true rfl, Nat.le_of_ble_eq_true rfl⟩ [zi 0, zi x1] rfl (Nat.le_of_ble_eq_true rfl) (zd tX12_worth 6 rfl) [zi r3, zi 0, zi x1] rfl (fun p4 => ?_)
  refine z_iconst C (zd tX12_worth 7 rfl) ?_
  refine z_isub C (zd tX12_worth 8 rfl) ?_
  obtain ⟨t5, et5, Rt5, h⟩ := zn_some h
  refine z_nk 0 (congrArg zI et5.symm) rfl ?_
  obtain ⟨v6, r7, cv6, h⟩ := zcl_some h
  refine zc_S C ho hz hRm (qX12_within _ _ _ _ Rx1 (zR_c 0 rfl) Rt5 p4.1 cv6) (zgS zwd_1109 zwd_1110 zwd_13 zwd_1111) rfl pX12_within rfl ⟨rfl, rfl⟩ ⟨Nat.le_of_ble_eq_true rfl, Nat.le_of_ble_eq_true rfl⟩ [] rfl (Nat.le_of_ble_eq_true rfl) (zd tX12_worth 9 rfl) [zi r7] rfl (fun p8 => ?_)
  refine z_if_ne (tgt := 21) C p8.2 (zd tX12_worth 10 rfl) (by decide) h (fun h => ?_) (fun h => ?_)
  · refine z_aload_n C (zd tX12_worth 13 rfl) rfl ?_
    obtain ⟨v9, r10, cv9, h⟩ := zcl_some h
    refine zc_V C ho hz hRm (qX12_allPay _ _ _ _ p8.1 cv9) (lg_137 ho) (by decide) rfl (zgV zwd_1363 zwd_1365 zws_79 zwd_13 zwd_1366) rfl pX12_allPay rfl ⟨rfl, rfl⟩ ⟨Nat.le_of_ble_eq_true rfl, Nat.le_of_ble_eq_true rfl⟩ [] rfl (Nat.le_of_ble_eq_true rfl) (zd tX12_worth 14 rfl) [zi r10] rfl (fun p11 => ?_)
    refine z_istore_n C (zd tX12_worth 15 rfl) (by rw [hN]; decide) ?_
    refine z_iconst C (zd tX12_worth 16 rfl) ?_
    refine z_istore_n C (zd tX12_worth 17 rfl) (by rw [hN]; decide) ?_
    refine z_sub (lo' := [some (zr 137), some (zi x1), some (zi r10), some (zi 0)]) (zsub_s (zsub_s (zsub_s (zsub_s zsub_0)))) ?_
    obtain ⟨v16, w17, lv16, h⟩ := zl_some h
    refine bX12_worth_L28 C hN ho hz hRm zFU v9 x1 r10 0 _ lv16 p11.1 Rx1 p11.2 (zR_c 0 rfl) (fun w1 q1 e1 hv16 Rw17 => ?_)
    obtain ⟨rfl, rfl⟩ := zpp e1
    refine z_bipush C (by decide) (zd tX12_worth 31 rfl) ?_
    refine z_iconst C (zd tX12_worth 32 rfl) ?_
    refine z_iload_n C (zd tX12_worth 33 rfl) rfl ?_
    refine z_imul C (zd tX12_worth 34 rfl) ?_
    refine z_iadd C (zd tX12_worth 35 rfl) ?_
    obtain ⟨t18, et18, Rt18, h⟩ := zn_some h
    refine z_n0 (congrArg zI et18.symm) ?_
    refine z_istore_n C (zd tX12_worth 36 rfl) (by rw [hN]; decide) ?_
    refine z_sub (lo' := [some (zr 137), none, some (zi r10), some (zi t18)]) (zsub_s (zsub_n (zsub_s (zsub_s zsub_0)))) ?_
    obtain ⟨v24, w25, lv24, h⟩ := zl_some h
    refine bX12_worth_L59 C hN ho hz hRm zFU v16 r10 t18 _ lv24 hv16 p11.2 Rt18 (fun w1 q1 e1 hv24 Rw25 => ?_)
    obtain ⟨rfl, rfl⟩ := zpp e1
    refine z_aload_n C (zd tX12_worth 54 rfl) rfl ?_
    refine gl_12_10 (t := 139) C (lg_137 ho) zic_12 (zm zwd_1000) (vl_12_10 ho hv24 (lg_137 ho)) (zd tX12_worth 55 rfl) ?_
    refine z_bipush C (by decide) (zd tX12_worth 56 rfl) ?_
    refine z_dup2 C (zd tX12_worth 57 rfl) ?_
    obtain ⟨q26, h⟩ := zck_some h
    refine za_iald C (lg_139 ho) rfl (by decide) q26 (zd tX12_worth 58 rfl) ?_
    refine z_iconst C (zd tX12_worth 59 rfl) ?_
    refine z_isub C (zd tX12_worth 60 rfl) ?_
    obtain ⟨t27, et27, Rt27, h⟩ := zn_some h
    refine z_n0 (congrArg zI et27.symm) ?_
    obtain ⟨q28, h⟩ := zck_some h
    obtain ⟨v29, ev29, h⟩ := zb_some h
    have hv29 : zV 137 24 v29 := by rw [ev29]; exact hv24.st Rt27 (lg_139 ho).1 (Or.inr rfl)
    refine za_iast C (lg_139 ho) rfl (by decide) q28 ev29 (zd tX12_worth 61 rfl) ?_
    refine z_aload_n C (zd tX12_worth 62 rfl) rfl ?_
    obtain ⟨v30, r31, cv30, h⟩ := zcl_some h
    refine zc_V C ho hz hRm (qX12_allPay _ _ _ _ hv29 cv30) (lg_137 ho) (by decide) rfl (zgV zwd_1363 zwd_1365 zws_79 zwd_13 zwd_1366) rfl pX12_allPay rfl ⟨rfl, rfl⟩ ⟨Nat.le_of_ble_eq_true rfl, Nat.le_of_ble_eq_true rfl⟩ [] rfl (Nat.le_of_ble_eq_true rfl) (zd tX12_worth 63 rfl) [zi r31] rfl (fun p32 => ?_)
    refine z_istore_n C (zd tX12_worth 64 rfl) (by rw [hN]; decide) ?_
    refine z_aload_n C (zd tX12_worth 65 rfl) rfl ?_
    obtain ⟨v33, r34, cv33, h⟩ := zcl_some h
    refine zc_V C ho hz hRm (qX12_takes _ _ _ _ p32.1 cv33) (lg_137 ho) (by decide) rfl (zgV zwd_986 zwd_988 zws_32 zwd_13 zwd_989) rfl pX12_takes rfl ⟨rfl, rfl⟩ ⟨Nat.le_of_ble_eq_true rfl, Nat.le_of_ble_eq_true rfl⟩ [] rfl (Nat.le_of_ble_eq_true rfl) (zd tX12_worth 66 rfl) [] rfl (fun p35 => ?_)
    refine z_iload_n C (zd tX12_worth 67 rfl) rfl ?_
    refine z_iload_n C (zd tX12_worth 68 rfl) rfl ?_
    refine z_isub C (zd tX12_worth 69 rfl) ?_
    obtain ⟨t36, et36, Rt36, h⟩ := zn_some h
    refine z_n0 (congrArg zI et36.symm) ?_
    obtain ⟨rfl, rfl⟩ := zpi h
    exact ret.1 _ _ _ _ ⟨p35, Rt36⟩ rfl rfl rfl (zd tX12_worth 70 rfl)
  · refine z_iconst C (zd tX12_worth 11 rfl) ?_
    obtain ⟨rfl, rfl⟩ := zpi h
    exact ret.1 _ _ _ _ ⟨p8.1, (zR_c (-1) rfl)⟩ rfl rfl rfl (zd tX12_worth 12 rfl)
noncomputable def vsX12_would : List Cond := .code yX12_would cX12_would 9 (some .int) :: zbig
abbrev rmX12_would : Room := { frames := 6, cells := 0, slots := 0, locals := 140 }
theorem pX12_would : yX12_would.cls = RX12 ∧ yX12_would.cls ≠ "java/lang/invoke/MethodHandle" ∧ yX12_would.cls ≠ "java/lang/invoke/VarHandle" ∧ (parseMethodDescriptor yX12_would.desc).map (fun d => d.parameters.length) = some 5 := by decide +kernel
set_option maxRecDepth 100000 in
set_option maxHeartbeats 4000000 in
theorem qX12_would (l : Launch) (D : va_G) (ids : Nat → ClassId) (b : Nat) {x1 : Int} (Rx1 : zR x1) {x2 : Int} (Rx2 : zR x2) {x3 : Int} (Rx3 : zR x3) {x4 : Int} (Rx4 : zR x4) {x5 : Int} (Rx5 : zR x5) {v v' : zHp} {r' : Int} (hv : zV 137 24 v) (h : fX12_would v x1 x2 x3 x4 x5 = some (v', r')) : zCT l yX12_would vsX12_would rmX12_would D ids b 137 False 24 [zr 137, zi x1, zi x2, zi x3, zi x4, zi x5] v 24 (zV 137 24 v' ∧ zR r') (some (zi r')) v' 0 0 := by
  refine zMet (own := RX12) (by decide +kernel) (show vsX12_would = _ from rfl) (Nat.le_of_ble_eq_true rfl) rfl ?_
  intro E hl hRm hD hids hb ho hz hN C hname ret
  subst hl hD hids hb
  unfold fX12_would at h
  refine z_aload_n C (zd tX12_would 0 rfl) rfl ?_
  refine z_iconst C (zd tX12_would 1 rfl) ?_
  obtain ⟨v1, ev1, h⟩ := zb_some h
  have hv1 : zV 137 24 v1 := by rw [ev1]; exact hv.st (zR_c 0 rfl) (lg_137 ho).1 (Or.inr rfl)
  refine pf_12_0 C (lg_137 ho) zic_12 (zm zwd_990) ev1 (zd tX12_would 2 rfl) ?_
  refine z_aload_n C (zd tX12_would 3 rfl) rfl ?_
  refine z_iload_n C (zd tX12_would 4 rfl) rfl ?_
  refine z_iload C (zd tX12_would 5 rfl) rfl ?_
  refine z_iload C (zd tX12_would 6 rfl) rfl ?_
  obtain ⟨v2, r3, cv2, h⟩ := zcl_some h
  refine zc_V C ho hz hRm (qX12_momentOf _ _ _ _ Rx3 Rx4 Rx5 hv1 cv2) (lg_137 ho) (by decide) rfl (zgV zwd_1185 zwd_1187 zws_48 zwd_13 zwd_1188) rfl pX12_momentOf rfl ⟨rfl, rfl⟩ ⟨Nat.le_of_ble_eq_true rfl, Nat.le_of_ble_eq_true rfl⟩ [] rfl (Nat.le_of_ble_eq_true rfl) (zd tX12_would 7 rfl) [zi r3] rfl (fun p4 => ?_)
  refine z_istore C (zd tX12_would 8 rfl) (by rw [hN]; decide) ?_
  refine z_aload_n C (zd tX12_would 9 rfl) rfl ?_
  refine z_iload_n C (zd tX12_would 10 rfl) rfl ?_
  refine z_iload_n C (zd tX12_would 11 rfl) rfl ?_
  refine z_iload C (zd tX12_would 12 rfl) rfl ?_
  obtain ⟨v5, r6, cv5, h⟩ := zcl_some h
  refine zc_V C ho hz hRm (qX12_canCome _ _ _ _ Rx1 Rx2 p4.2 p4.1 cv5) (lg_137 ho) (by decide) rfl (zgV zwd_1207 zwd_1209 zws_51 zwd_13 zwd_1210) rfl pX12_canCome rfl ⟨rfl, rfl⟩ ⟨Nat.le_of_ble_eq_true rfl, Nat.le_of_ble_eq_true rfl⟩ [] rfl (Nat.le_of_ble_eq_true rfl) (zd tX12_would 13 rfl) [zi r6] rfl (fun p7 => ?_)
  refine z_if_ne (tgt := 31) C p7.2 (zd tX12_would 14 rfl) (by decide) h (fun h => ?_) (fun h => ?_)
  · refine z_aload_n C (zd tX12_would 17 rfl) rfl ?_
    refine z_iload_n C (zd tX12_would 18 rfl) rfl ?_
    obtain ⟨v8, r9, cv8, h⟩ := zcl_some h
    refine zc_V C ho hz hRm (qX12_payOf _ _ _ _ Rx1 p7.1 cv8) (lg_137 ho) (by decide) rfl (zgV zwd_1367 zwd_1369 zws_80 zwd_13 zwd_1370) rfl pX12_payOf rfl ⟨rfl, rfl⟩ ⟨Nat.le_of_ble_eq_true rfl, Nat.le_of_ble_eq_true rfl⟩ [] rfl (Nat.le_of_ble_eq_true rfl) (zd tX12_would 19 rfl) [zi r9] rfl (fun p10 => ?_)
    refine z_istore C (zd tX12_would 20 rfl) (by rw [hN]; decide) ?_
    refine z_aload_n C (zd tX12_would 21 rfl) rfl ?_
    refine z_iload_n C (zd tX12_would 22 rfl) rfl ?_
    refine z_iload C (zd tX12_would 23 rfl) rfl ?_
    refine z_iload_n C (zd tX12_would 24 rfl) rfl ?_
    obtain ⟨v11, r12, cv11, h⟩ := zcl_some h
    refine zc_V C ho hz hRm (qX12_comes _ _ _ _ Rx1 p4.2 Rx2 p10.1 cv11) (lg_137 ho) (by decide) rfl (zgV zwd_1219 zwd_1221 zws_54 zwd_13 zwd_1222) rfl pX12_comes rfl ⟨rfl, rfl⟩ ⟨Nat.le_of_ble_eq_true rfl, Nat.le_of_ble_eq_true rfl⟩ [] rfl (Nat.le_of_ble_eq_true rfl) (zd tX12_would 25 rfl) [] rfl (fun p13 => ?_)
    refine z_aload_n C (zd tX12_would 26 rfl) rfl ?_
    refine z_iload_n C (zd tX12_would 27 rfl) rfl ?_
    obtain ⟨v14, r15, cv14, h⟩ := zcl_some h
    refine zc_V C ho hz hRm (qX12_payOf _ _ _ _ Rx1 p13 cv14) (lg_137 ho) (by decide) rfl (zgV zwd_1367 zwd_1369 zws_80 zwd_13 zwd_1370) rfl pX12_payOf rfl ⟨rfl, rfl⟩ ⟨Nat.le_of_ble_eq_true rfl, Nat.le_of_ble_eq_true rfl⟩ [] rfl (Nat.le_of_ble_eq_true rfl) (zd tX12_would 28 rfl) [zi r15] rfl (fun p16 => ?_)
    refine z_istore C (zd tX12_would 29 rfl) (by rw [hN]; decide) ?_
    refine z_aload_n C (zd tX12_would 30 rfl) rfl ?_
    refine z_iload_n C (zd tX12_would 31 rfl) rfl ?_
    refine z_iload C (zd tX12_would 32 rfl) rfl ?_
    obtain ⟨v17, r18, cv17, h⟩ := zcl_some h
    refine zc_V C ho hz hRm (qX12_leaves _ _ _ _ Rx1 p4.2 p16.1 cv17) (lg_137 ho) (by decide) rfl (zgV zwd_1231 zwd_1233 zws_56 zwd_13 zwd_1234) rfl pX12_leaves rfl ⟨rfl, rfl⟩ ⟨Nat.le_of_ble_eq_true rfl, Nat.le_of_ble_eq_true rfl⟩ [] rfl (Nat.le_of_ble_eq_true rfl) (zd tX12_would 33 rfl) [] rfl (fun p19 => ?_)
    refine z_iload C (zd tX12_would 34 rfl) rfl ?_
    refine z_iload C (zd tX12_would 35 rfl) rfl ?_
    refine z_isub C (zd tX12_would 36 rfl) ?_
    obtain ⟨t20, et20, Rt20, h⟩ := zn_some h
    refine z_n0 (congrArg zI et20.symm) ?_
    obtain ⟨rfl, rfl⟩ := zpi h
    exact ret.1 _ _ _ _ ⟨p19, Rt20⟩ rfl rfl rfl (zd tX12_would 37 rfl)
  · refine z_ldcw (x := (-2147483648 : Int32)) (i := (-2147483648)) C (by decide) (zm zwd_1375) (zd tX12_would 15 rfl) ?_
    obtain ⟨rfl, rfl⟩ := zpi h
    exact ret.1 _ _ _ _ ⟨p7.1, (zR_c (-2147483648) rfl)⟩ rfl rfl rfl (zd tX12_would 16 rfl)
