noncomputable def vsX12_go : List Cond := .code yX12_go cX12_go 2 none :: zbig
abbrev rmX12_go : Room := { frames := 1, cells := 0, slots := 0, locals := 22 }
theorem pX12_go : yX12_go.cls = RX12 ∧ yX12_go.cls ≠ "java/lang/invoke/MethodHandle" ∧ yX12_go.cls ≠ "java/lang/invoke/VarHandle" ∧ (parseMethodDescriptor yX12_go.desc).map (fun d => d.parameters.length) = some 0 := by decide +kernel
set_option maxRecDepth 100000 in
set_option maxHeartbeats 4000000 in
theorem jX12_go_J26 {E : zE} (C : zC E 24 cX12_go RX12 vsX12_go) (hN : zEN E = 2) (ho : zEo E = 137) (hz : zEz E = False) (hRm : zER E = rmX12_go) (rc : zHp → Option (zHp × (Int))) (res : (zHp × (Int))) (v : zHp) (K1 : ∀ (w : zHp) (q : Int), res = (w, q) → zV 137 24 w → True → zX E 0 0 24 w 39 [some (zr 137), none] []) (hrc0 : True) (h : fX12_go_J26 rc v = some res) (hv : zV 137 24 v) (hrc : ∀ (v : zHp), rc v = some res → zV 137 24 v → zX E 0 0 24 v 0 [some (zr 137), none] []): zX E 0 0 24 v 26 [some (zr 137), none] [] := by
  unfold fX12_go_J26 at h
  refine z_aload_n C (zd tX12_go 12 rfl) rfl ?_
  refine z_dup C (zd tX12_go 13 rfl) ?_
  refine gf_12_5 C (lg_137 ho) zic_12 (zm zwd_995) (zd tX12_go 14 rfl) ?_
  refine z_iconst C (zd tX12_go 15 rfl) ?_
  refine z_iadd C (zd tX12_go 16 rfl) ?_
  obtain ⟨t4, et4, Rt4, h⟩ := zn_some h
  refine z_n0 (congrArg zI et4.symm) ?_
  obtain ⟨v5, ev5, h⟩ := zb_some h
  have hv5 : zV 137 24 v5 := by rw [ev5]; exact hv.st Rt4 (lg_137 ho).1 (Or.inr rfl)
  refine pf_12_5 C (lg_137 ho) zic_12 (zm zwd_995) ev5 (zd tX12_go 17 rfl) ?_
  refine z_goto (tgt := 0) C (zd tX12_go 18 rfl) (by decide) ?_
  refine z_sub (lo' := [some (zr 137), none]) (zsub_s (zsub_n zsub_0)) ?_
  exact hrc v5 h hv5
set_option maxRecDepth 100000 in
set_option maxHeartbeats 4000000 in
theorem bX12_go_L0 {E : zE} (C : zC E 24 cX12_go RX12 vsX12_go) (hN : zEN E = 2) (ho : zEo E = 137) (hz : zEz E = False) (hRm : zER E = rmX12_go) : ∀ (fu : Nat) (v : zHp) (res : (zHp × (Int))), fX12_go_L0 fu v = some res → zV 137 24 v → (∀ (w : zHp) (q : Int), res = (w, q) → zV 137 24 w → True → zX E 0 0 24 w 39 [some (zr 137), none] []) → zX E 0 0 24 v 0 [some (zr 137), none] [] := by
  intro fu
  induction fu with
  | zero =>
    intro v res h
    cases h
  | succ fu ih =>
    intro v res h hv K1
    rw [fX12_go_L0.eq_2] at h
    refine z_aload_n C (zd tX12_go 0 rfl) rfl ?_
    refine z_aload_n C (zd tX12_go 1 rfl) rfl ?_
    refine gf_12_5 C (lg_137 ho) zic_12 (zm zwd_995) (zd tX12_go 2 rfl) ?_
    obtain ⟨v1, r2, cv1, h⟩ := zcl_some h
    refine zc_V C ho hz hRm (qX12_byteAt _ _ _ _ (hv.1 _ _) hv cv1) (lg_137 ho) (by decide) rfl (zgV zwd_1116 zwd_1118 zws_34 zwd_13 zwd_1119) rfl pX12_byteAt rfl ⟨rfl, rfl⟩ ⟨Nat.le_of_ble_eq_true rfl, Nat.le_of_ble_eq_true rfl⟩ [] rfl (Nat.le_of_ble_eq_true rfl) (zd tX12_go 3 rfl) [zi r2] rfl (fun p3 => ?_)
    refine z_bipush C (by decide) (zd tX12_go 4 rfl) ?_
    refine z_icmp_eq (tgt := 26) C p3.2 (zR_c 32 rfl) (zd tX12_go 5 rfl) (by decide) h (fun h => ?_) (fun h => ?_)
    · refine z_sub (lo' := [some (zr 137), none]) (zsub_s (zsub_n zsub_0)) ?_
      exact jX12_go_J26 C hN ho hz hRm _ _ v1 K1 trivial h p3.1 (fun w  hw hvw  => ih w  _ hw hvw  K1)
    · refine z_aload_n C (zd tX12_go 6 rfl) rfl ?_
      refine z_aload_n C (zd tX12_go 7 rfl) rfl ?_
      refine gf_12_5 C (lg_137 ho) zic_12 (zm zwd_995) (zd tX12_go 8 rfl) ?_
      obtain ⟨v6, r7, cv6, h⟩ := zcl_some h
      refine zc_V C ho hz hRm (qX12_byteAt _ _ _ _ (p3.1.1 _ _) p3.1 cv6) (lg_137 ho) (by decide) rfl (zgV zwd_1116 zwd_1118 zws_34 zwd_13 zwd_1119) rfl pX12_byteAt rfl ⟨rfl, rfl⟩ ⟨Nat.le_of_ble_eq_true rfl, Nat.le_of_ble_eq_true rfl⟩ [] rfl (Nat.le_of_ble_eq_true rfl) (zd tX12_go 9 rfl) [zi r7] rfl (fun p8 => ?_)
      refine z_bipush C (by decide) (zd tX12_go 10 rfl) ?_
      refine z_icmp_ne (tgt := 39) C p8.2 (zR_c 10 rfl) (zd tX12_go 11 rfl) (by decide) h (fun h => ?_) (fun h => ?_)
      · refine z_sub (lo' := [some (zr 137), none]) (zsub_s (zsub_n zsub_0)) ?_
        exact K1 _ _ (Option.some.inj h).symm p8.1 trivial
      · refine z_sub (lo' := [some (zr 137), none]) (zsub_s (zsub_n zsub_0)) ?_
        exact jX12_go_J26 C hN ho hz hRm _ _ v6 K1 trivial h p8.1 (fun w  hw hvw  => ih w  _ hw hvw  K1)
set_option maxRecDepth 100000 in
set_option maxHeartbeats 4000000 in
theorem jX12_go_J190 {E : zE} (C : zC E 24 cX12_go RX12 vsX12_go) (hN : zEN E = 2) (ho : zEo E = 137) (hz : zEz E = False) (hRm : zER E = rmX12_go) (rc : zHp → Option (zHp × (Int))) (res : (zHp × (Int))) (v : zHp) (s1 : Int) (K1 : ∀ (w : zHp) (q : Int), res = (w, q) → zV 137 24 w → True → zX E 0 0 24 w 206 [some (zr 137), none] []) (hrc0 : True) (h : fX12_go_J190 rc v s1 = some res) (hv : zV 137 24 v) (Rs1 : zR s1) (hrc : ∀ (v : zHp), rc v = some res → zV 137 24 v → zX E 0 0 24 v 134 [some (zr 137), none] []): zX E 0 0 24 v 190 [some (zr 137), none] [zi s1, zr 137] := by
  unfold fX12_go_J190 at h
  obtain ⟨v33, ev33, h⟩ := zb_some h
  have hv33 : zV 137 24 v33 := by rw [ev33]; exact hv.st Rs1 (lg_137 ho).1 (Or.inr rfl)
  refine pf_12_7 C (lg_137 ho) zic_12 (zm zwd_997) ev33 (zd tX12_go 95 rfl) ?_
  refine z_aload_n C (zd tX12_go 96 rfl) rfl ?_
  refine z_dup C (zd tX12_go 97 rfl) ?_
  refine gf_12_5 C (lg_137 ho) zic_12 (zm zwd_995) (zd tX12_go 98 rfl) ?_
  refine z_iconst C (zd tX12_go 99 rfl) ?_
  refine z_iadd C (zd tX12_go 100 rfl) ?_
  obtain ⟨t34, et34, Rt34, h⟩ := zn_some h
  refine z_n0 (congrArg zI et34.symm) ?_
  obtain ⟨v35, ev35, h⟩ := zb_some h
  have hv35 : zV 137 24 v35 := by rw [ev35]; exact hv33.st Rt34 (lg_137 ho).1 (Or.inr rfl)
  refine pf_12_5 C (lg_137 ho) zic_12 (zm zwd_995) ev35 (zd tX12_go 101 rfl) ?_
  refine z_goto (tgt := 134) C (zd tX12_go 102 rfl) (by decide) ?_
  refine z_sub (lo' := [some (zr 137), none]) (zsub_s (zsub_n zsub_0)) ?_
  exact hrc v35 h hv35
set_option maxRecDepth 100000 in
set_option maxHeartbeats 4000000 in
theorem bX12_go_L134 {E : zE} (C : zC E 24 cX12_go RX12 vsX12_go) (hN : zEN E = 2) (ho : zEo E = 137) (hz : zEz E = False) (hRm : zER E = rmX12_go) : ∀ (fu : Nat) (v : zHp) (res : (zHp × (Int))), fX12_go_L134 fu v = some res → zV 137 24 v → (∀ (w : zHp) (q : Int), res = (w, q) → zV 137 24 w → True → zX E 0 0 24 w 206 [some (zr 137), none] []) → zX E 0 0 24 v 134 [some (zr 137), none] [] := by
  intro fu
  induction fu with
  | zero =>
    intro v res h
    cases h
  | succ fu ih =>
    intro v res h hv K1
    rw [fX12_go_L134.eq_2] at h
    refine z_aload_n C (zd tX12_go 66 rfl) rfl ?_
    refine z_aload_n C (zd tX12_go 67 rfl) rfl ?_
    refine gf_12_5 C (lg_137 ho) zic_12 (zm zwd_995) (zd tX12_go 68 rfl) ?_
    obtain ⟨v26, r27, cv26, h⟩ := zcl_some h
    refine zc_V C ho hz hRm (qX12_byteAt _ _ _ _ (hv.1 _ _) hv cv26) (lg_137 ho) (by decide) rfl (zgV zwd_1116 zwd_1118 zws_34 zwd_13 zwd_1119) rfl pX12_byteAt rfl ⟨rfl, rfl⟩ ⟨Nat.le_of_ble_eq_true rfl, Nat.le_of_ble_eq_true rfl⟩ [] rfl (Nat.le_of_ble_eq_true rfl) (zd tX12_go 69 rfl) [zi r27] rfl (fun p28 => ?_)
    refine z_bipush C (by decide) (zd tX12_go 70 rfl) ?_
    refine z_bipush C (by decide) (zd tX12_go 71 rfl) ?_
    obtain ⟨v29, r30, cv29, h⟩ := zcl_some h
    refine zc_S C ho hz hRm (qX12_within _ _ _ _ p28.2 (zR_c 48 rfl) (zR_c 57 rfl) p28.1 cv29) (zgS zwd_1109 zwd_1110 zwd_13 zwd_1111) rfl pX12_within rfl ⟨rfl, rfl⟩ ⟨Nat.le_of_ble_eq_true rfl, Nat.le_of_ble_eq_true rfl⟩ [] rfl (Nat.le_of_ble_eq_true rfl) (zd tX12_go 72 rfl) [zi r30] rfl (fun p31 => ?_)
    refine z_if_eq (tgt := 206) C p31.2 (zd tX12_go 73 rfl) (by decide) h (fun h => ?_) (fun h => ?_)
    · refine z_sub (lo' := [some (zr 137), none]) (zsub_s (zsub_n zsub_0)) ?_
      exact K1 _ _ (Option.some.inj h).symm p31.1 trivial
    · refine z_aload_n C (zd tX12_go 74 rfl) rfl ?_
      refine z_aload_n C (zd tX12_go 75 rfl) rfl ?_
      refine gf_12_5 C (lg_137 ho) zic_12 (zm zwd_995) (zd tX12_go 76 rfl) ?_
      refine z_aload_n C (zd tX12_go 77 rfl) rfl ?_
      refine gf_12_4 C (lg_137 ho) zic_12 (zm zwd_994) (zd tX12_go 78 rfl) ?_
      refine z_isub C (zd tX12_go 79 rfl) ?_
      refine z_iconst C (zd tX12_go 80 rfl) ?_
      obtain ⟨t32, et32, Rt32, h⟩ := zn_some h
      refine z_n1 (congrArg zI et32.symm) ?_
      refine z_icmp_ge (tgt := 188) C Rt32 (zR_c 4 rfl) (zd tX12_go 81 rfl) (by decide) h (fun h => ?_) (fun h => ?_)
      · refine z_ldc (x := (99999 : Int32)) (i := 99999) C (by decide) (zm zwd_1120) (zd tX12_go 94 rfl) ?_
        refine z_sub (lo' := [some (zr 137), none]) (zsub_s (zsub_n zsub_0)) ?_
        exact jX12_go_J190 C hN ho hz hRm _ _ v29 99999 K1 trivial h p31.1 (zR_c 99999 rfl) (fun w  hw hvw  => ih w  _ hw hvw  K1)
      · refine z_bipush C (by decide) (zd tX12_go 82 rfl) ?_
        refine z_aload_n C (zd tX12_go 83 rfl) rfl ?_
        refine gf_12_7 C (lg_137 ho) zic_12 (zm zwd_997) (zd tX12_go 84 rfl) ?_
        refine z_imul C (zd tX12_go 85 rfl) ?_
        refine z_aload_n C (zd tX12_go 86 rfl) rfl ?_
        refine z_aload_n C (zd tX12_go 87 rfl) rfl ?_
        refine gf_12_5 C (lg_137 ho) zic_12 (zm zwd_995) (zd tX12_go 88 rfl) ?_
        obtain ⟨v36, r37, cv36, h⟩ := zcl_some h
        refine zc_V C ho hz hRm (qX12_byteAt _ _ _ _ (p31.1.1 _ _) p31.1 cv36) (lg_137 ho) (by decide) rfl (zgV zwd_1116 zwd_1118 zws_34 zwd_13 zwd_1119) rfl pX12_byteAt rfl ⟨rfl, rfl⟩ ⟨Nat.le_of_ble_eq_true rfl, Nat.le_of_ble_eq_true rfl⟩ [zi (10 * (v29 137 7)), zr 137] rfl (Nat.le_of_ble_eq_true rfl) (zd tX12_go 89 rfl) [zi r37, zi (10 * (v29 137 7)), zr 137] rfl (fun p38 => ?_)
        refine z_iadd C (zd tX12_go 90 rfl) ?_
        refine z_bipush C (by decide) (zd tX12_go 91 rfl) ?_
        refine z_isub C (zd tX12_go 92 rfl) ?_
        refine z_goto (tgt := 190) C (zd tX12_go 93 rfl) (by decide) ?_
        obtain ⟨t39, et39, Rt39, h⟩ := zn_some h
        refine z_nk 0 (congrArg zI et39.symm) rfl ?_
        refine z_sub (lo' := [some (zr 137), none]) (zsub_s (zsub_n zsub_0)) ?_
        exact jX12_go_J190 C hN ho hz hRm _ _ v36 t39 K1 trivial h p38.1 Rt39 (fun w  hw hvw  => ih w  _ hw hvw  K1)
set_option maxRecDepth 100000 in
set_option maxHeartbeats 4000000 in
theorem bX12_go_L79 {E : zE} (C : zC E 24 cX12_go RX12 vsX12_go) (hN : zEN E = 2) (ho : zEo E = 137) (hz : zEz E = False) (hRm : zER E = rmX12_go) : ∀ (fu : Nat) (v : zHp) (res : (zHp × (Int))), fX12_go_L79 fu v = some res → zV 137 24 v → (∀ (w : zHp) (q : Int), res = (w, q) → zV 137 24 w → True → zX E 0 0 24 w 110 [some (zr 137), none] []) → zX E 0 0 24 v 79 [some (zr 137), none] [] := by
  intro fu
  induction fu with
  | zero =>
    intro v res h
    cases h
  | succ fu ih =>
    intro v res h hv K1
    rw [fX12_go_L79.eq_2] at h
    refine z_aload_n C (zd tX12_go 39 rfl) rfl ?_
    refine z_aload_n C (zd tX12_go 40 rfl) rfl ?_
    refine gf_12_5 C (lg_137 ho) zic_12 (zm zwd_995) (zd tX12_go 41 rfl) ?_
    obtain ⟨v43, r44, cv43, h⟩ := zcl_some h
    refine zc_V C ho hz hRm (qX12_byteAt _ _ _ _ (hv.1 _ _) hv cv43) (lg_137 ho) (by decide) rfl (zgV zwd_1116 zwd_1118 zws_34 zwd_13 zwd_1119) rfl pX12_byteAt rfl ⟨rfl, rfl⟩ ⟨Nat.le_of_ble_eq_true rfl, Nat.le_of_ble_eq_true rfl⟩ [] rfl (Nat.le_of_ble_eq_true rfl) (zd tX12_go 42 rfl) [zi r44] rfl (fun p45 => ?_)
    refine z_bipush C (by decide) (zd tX12_go 43 rfl) ?_
    refine z_bipush C (by decide) (zd tX12_go 44 rfl) ?_
    obtain ⟨v46, r47, cv46, h⟩ := zcl_some h
    refine zc_S C ho hz hRm (qX12_within _ _ _ _ p45.2 (zR_c 97 rfl) (zR_c 122 rfl) p45.1 cv46) (zgS zwd_1109 zwd_1110 zwd_13 zwd_1111) rfl pX12_within rfl ⟨rfl, rfl⟩ ⟨Nat.le_of_ble_eq_true rfl, Nat.le_of_ble_eq_true rfl⟩ [] rfl (Nat.le_of_ble_eq_true rfl) (zd tX12_go 45 rfl) [zi r47] rfl (fun p48 => ?_)
    refine z_if_eq (tgt := 110) C p48.2 (zd tX12_go 46 rfl) (by decide) h (fun h => ?_) (fun h => ?_)
    · refine z_sub (lo' := [some (zr 137), none]) (zsub_s (zsub_n zsub_0)) ?_
      exact K1 _ _ (Option.some.inj h).symm p48.1 trivial
    · refine z_aload_n C (zd tX12_go 47 rfl) rfl ?_
      refine z_dup C (zd tX12_go 48 rfl) ?_
      refine gf_12_5 C (lg_137 ho) zic_12 (zm zwd_995) (zd tX12_go 49 rfl) ?_
      refine z_iconst C (zd tX12_go 50 rfl) ?_
      refine z_iadd C (zd tX12_go 51 rfl) ?_
      obtain ⟨t49, et49, Rt49, h⟩ := zn_some h
      refine z_n0 (congrArg zI et49.symm) ?_
      obtain ⟨v50, ev50, h⟩ := zb_some h
      have hv50 : zV 137 24 v50 := by rw [ev50]; exact p48.1.st Rt49 (lg_137 ho).1 (Or.inr rfl)
      refine pf_12_5 C (lg_137 ho) zic_12 (zm zwd_995) ev50 (zd tX12_go 52 rfl) ?_
      refine z_goto (tgt := 79) C (zd tX12_go 53 rfl) (by decide) ?_
      refine z_sub (lo' := [some (zr 137), none]) (zsub_s (zsub_n zsub_0)) ?_
      exact ih v50 _ h hv50 K1
set_option maxRecDepth 100000 in
set_option maxHeartbeats 4000000 in
theorem qX12_go (l : Launch) (D : va_G) (ids : Nat → ClassId) (b : Nat)  {v v' : zHp} {r' : Int} (hv : zV 137 24 v) (h : fX12_go v = some (v', r')) : zCT l yX12_go vsX12_go rmX12_go D ids b 137 False 24 [zr 137] v 24 (zV 137 24 v') none v' 0 0 := by
  refine zMet (own := RX12) (by decide +kernel) (show vsX12_go = _ from rfl) (Nat.le_of_ble_eq_true rfl) rfl ?_
  intro E hl hRm hD hids hb ho hz hN C hname ret
  subst hl hD hids hb
  unfold fX12_go at h
  refine z_sub (lo' := [some (zr 137), none]) (zsub_s (zsub_n zsub_0)) ?_
  obtain ⟨v9, w10, lv9, h⟩ := zl_some h
  refine bX12_go_L0 C hN ho hz hRm zFU v _ lv9 hv (fun w1 q1 e1 hv9 Rw10 => ?_)
  obtain ⟨rfl, rfl⟩ := zpp e1
  refine z_aload_n C (zd tX12_go 19 rfl) rfl ?_
  refine z_aload_n C (zd tX12_go 20 rfl) rfl ?_
  refine gf_12_5 C (lg_137 ho) zic_12 (zm zwd_995) (zd tX12_go 21 rfl) ?_
  obtain ⟨v11, ev11, h⟩ := zb_some h
  have hv11 : zV 137 24 v11 := by rw [ev11]; exact hv9.st (hv9.1 _ _) (lg_137 ho).1 (Or.inr rfl)
  refine pf_12_4 C (lg_137 ho) zic_12 (zm zwd_994) ev11 (zd tX12_go 22 rfl) ?_
  refine z_aload_n C (zd tX12_go 23 rfl) rfl ?_
  refine z_aload_n C (zd tX12_go 24 rfl) rfl ?_
  refine gf_12_5 C (lg_137 ho) zic_12 (zm zwd_995) (zd tX12_go 25 rfl) ?_
  obtain ⟨v12, r13, cv12, h⟩ := zcl_some h
  refine zc_V C ho hz hRm (qX12_byteAt _ _ _ _ (hv11.1 _ _) hv11 cv12) (lg_137 ho) (by decide) rfl (zgV zwd_1116 zwd_1118 zws_34 zwd_13 zwd_1119) rfl pX12_byteAt rfl ⟨rfl, rfl⟩ ⟨Nat.le_of_ble_eq_true rfl, Nat.le_of_ble_eq_true rfl⟩ [] rfl (Nat.le_of_ble_eq_true rfl) (zd tX12_go 26 rfl) [zi r13] rfl (fun p14 => ?_)
  refine z_istore_n C (zd tX12_go 27 rfl) (by rw [hN]; decide) ?_
  refine z_iload_n C (zd tX12_go 28 rfl) rfl ?_
  refine z_if_ge (tgt := 68) C p14.2 (zd tX12_go 29 rfl) (by decide) h (fun h => ?_) (fun h => ?_)
  · refine z_iload_n C (zd tX12_go 34 rfl) rfl ?_
    refine z_bipush C (by decide) (zd tX12_go 35 rfl) ?_
    refine z_bipush C (by decide) (zd tX12_go 36 rfl) ?_
    obtain ⟨v15, r16, cv15, h⟩ := zcl_some h
    refine zc_S C ho hz hRm (qX12_within _ _ _ _ p14.2 (zR_c 97 rfl) (zR_c 122 rfl) p14.1 cv15) (zgS zwd_1109 zwd_1110 zwd_13 zwd_1111) rfl pX12_within rfl ⟨rfl, rfl⟩ ⟨Nat.le_of_ble_eq_true rfl, Nat.le_of_ble_eq_true rfl⟩ [] rfl (Nat.le_of_ble_eq_true rfl) (zd tX12_go 37 rfl) [zi r16] rfl (fun p17 => ?_)
    refine z_if_eq (tgt := 118) C p17.2 (zd tX12_go 38 rfl) (by decide) h (fun h => ?_) (fun h => ?_)
    · refine z_iload_n C (zd tX12_go 58 rfl) rfl ?_
      refine z_bipush C (by decide) (zd tX12_go 59 rfl) ?_
      refine z_bipush C (by decide) (zd tX12_go 60 rfl) ?_
      obtain ⟨v18, r19, cv18, h⟩ := zcl_some h
      refine zc_S C ho hz hRm (qX12_within _ _ _ _ p14.2 (zR_c 48 rfl) (zR_c 57 rfl) p17.1 cv18) (zgS zwd_1109 zwd_1110 zwd_13 zwd_1111) rfl pX12_within rfl ⟨rfl, rfl⟩ ⟨Nat.le_of_ble_eq_true rfl, Nat.le_of_ble_eq_true rfl⟩ [] rfl (Nat.le_of_ble_eq_true rfl) (zd tX12_go 61 rfl) [zi r19] rfl (fun p20 => ?_)
      refine z_if_eq (tgt := 214) C p20.2 (zd tX12_go 62 rfl) (by decide) h (fun h => ?_) (fun h => ?_)
      · refine z_aload_n C (zd tX12_go 107 rfl) rfl ?_
        refine z_dup C (zd tX12_go 108 rfl) ?_
        refine gf_12_5 C (lg_137 ho) zic_12 (zm zwd_995) (zd tX12_go 109 rfl) ?_
        refine z_iconst C (zd tX12_go 110 rfl) ?_
        refine z_iadd C (zd tX12_go 111 rfl) ?_
        obtain ⟨t21, et21, Rt21, h⟩ := zn_some h
        refine z_n0 (congrArg zI et21.symm) ?_
        obtain ⟨v22, ev22, h⟩ := zb_some h
        have hv22 : zV 137 24 v22 := by rw [ev22]; exact p20.1.st Rt21 (lg_137 ho).1 (Or.inr rfl)
        refine pf_12_5 C (lg_137 ho) zic_12 (zm zwd_995) ev22 (zd tX12_go 112 rfl) ?_
        refine z_aload_n C (zd tX12_go 113 rfl) rfl ?_
        refine z_iload_n C (zd tX12_go 114 rfl) rfl ?_
        refine z_bipush C (by decide) (zd tX12_go 115 rfl) ?_
        refine z_icmp_ne (tgt := 235) C p14.2 (zR_c 59 rfl) (zd tX12_go 116 rfl) (by decide) h (fun h => ?_) (fun h => ?_)
        · refine z_iconst C (zd tX12_go 119 rfl) ?_
          obtain ⟨v23, ev23, h⟩ := zb_some h
          have hv23 : zV 137 24 v23 := by rw [ev23]; exact hv22.st (zR_c 4 rfl) (lg_137 ho).1 (Or.inr rfl)
          refine pf_12_6 C (lg_137 ho) zic_12 (zm zwd_996) ev23 (zd tX12_go 120 rfl) ?_
          obtain ⟨rfl, rfl⟩ := zpi h
          exact ret.2.1 _ _ hv23 rfl rfl (zd tX12_go 121 rfl)
        · refine z_iconst C (zd tX12_go 117 rfl) ?_
          refine z_goto (tgt := 236) C (zd tX12_go 118 rfl) (by decide) ?_
          obtain ⟨v24, ev24, h⟩ := zb_some h
          have hv24 : zV 137 24 v24 := by rw [ev24]; exact hv22.st (zR_c 3 rfl) (lg_137 ho).1 (Or.inr rfl)
          refine pf_12_6 C (lg_137 ho) zic_12 (zm zwd_996) ev24 (zd tX12_go 120 rfl) ?_
          obtain ⟨rfl, rfl⟩ := zpi h
          exact ret.2.1 _ _ hv24 rfl rfl (zd tX12_go 121 rfl)
      · refine z_aload_n C (zd tX12_go 63 rfl) rfl ?_
        refine z_iconst C (zd tX12_go 64 rfl) ?_
        obtain ⟨v25, ev25, h⟩ := zb_some h
        have hv25 : zV 137 24 v25 := by rw [ev25]; exact p20.1.st (zR_c 0 rfl) (lg_137 ho).1 (Or.inr rfl)
        refine pf_12_7 C (lg_137 ho) zic_12 (zm zwd_997) ev25 (zd tX12_go 65 rfl) ?_
        refine z_sub (lo' := [some (zr 137), none]) (zsub_s (zsub_n zsub_0)) ?_
        obtain ⟨v40, w41, lv40, h⟩ := zl_some h
        refine bX12_go_L134 C hN ho hz hRm zFU v25 _ lv40 hv25 (fun w1 q1 e1 hv40 Rw41 => ?_)
        obtain ⟨rfl, rfl⟩ := zpp e1
        refine z_aload_n C (zd tX12_go 103 rfl) rfl ?_
        refine z_iconst C (zd tX12_go 104 rfl) ?_
        obtain ⟨v42, ev42, h⟩ := zb_some h
        have hv42 : zV 137 24 v42 := by rw [ev42]; exact hv40.st (zR_c 2 rfl) (lg_137 ho).1 (Or.inr rfl)
        refine pf_12_6 C (lg_137 ho) zic_12 (zm zwd_996) ev42 (zd tX12_go 105 rfl) ?_
        refine z_goto (tgt := 239) C (zd tX12_go 106 rfl) (by decide) ?_
        obtain ⟨rfl, rfl⟩ := zpi h
        exact ret.2.1 _ _ hv42 rfl rfl (zd tX12_go 121 rfl)
    · refine z_sub (lo' := [some (zr 137), none]) (zsub_s (zsub_n zsub_0)) ?_
      obtain ⟨v51, w52, lv51, h⟩ := zl_some h
      refine bX12_go_L79 C hN ho hz hRm zFU v15 _ lv51 p17.1 (fun w1 q1 e1 hv51 Rw52 => ?_)
      obtain ⟨rfl, rfl⟩ := zpp e1
      refine z_aload_n C (zd tX12_go 54 rfl) rfl ?_
      refine z_iconst C (zd tX12_go 55 rfl) ?_
      obtain ⟨v53, ev53, h⟩ := zb_some h
      have hv53 : zV 137 24 v53 := by rw [ev53]; exact hv51.st (zR_c 1 rfl) (lg_137 ho).1 (Or.inr rfl)
      refine pf_12_6 C (lg_137 ho) zic_12 (zm zwd_996) ev53 (zd tX12_go 56 rfl) ?_
      refine z_goto (tgt := 239) C (zd tX12_go 57 rfl) (by decide) ?_
      obtain ⟨rfl, rfl⟩ := zpi h
      exact ret.2.1 _ _ hv53 rfl rfl (zd tX12_go 121 rfl)
  · refine z_aload_n C (zd tX12_go 30 rfl) rfl ?_
    refine z_iconst C (zd tX12_go 31 rfl) ?_
    obtain ⟨v54, ev54, h⟩ := zb_some h
    have hv54 : zV 137 24 v54 := by rw [ev54]; exact p14.1.st (zR_c 0 rfl) (lg_137 ho).1 (Or.inr rfl)
    refine pf_12_6 C (lg_137 ho) zic_12 (zm zwd_996) ev54 (zd tX12_go 32 rfl) ?_
    refine z_goto (tgt := 239) C (zd tX12_go 33 rfl) (by decide) ?_
    obtain ⟨rfl, rfl⟩ := zpi h
    exact ret.2.1 _ _ hv54 rfl rfl (zd tX12_go 121 rfl)
noncomputable def vsX12_isWord : List Cond := .code yX12_isWord cX12_isWord 12 (some .boolean) :: zbig
abbrev rmX12_isWord : Room := { frames := 1, cells := 1, slots := 8, locals := 21 }
theorem pX12_isWord : yX12_isWord.cls = RX12 ∧ yX12_isWord.cls ≠ "java/lang/invoke/MethodHandle" ∧ yX12_isWord.cls ≠ "java/lang/invoke/VarHandle" ∧ (parseMethodDescriptor yX12_isWord.desc).map (fun d => d.parameters.length) = some 8 := by decide +kernel
set_option maxRecDepth 100000 in
set_option maxHeartbeats 4000000 in
theorem jX12_isWord_J118 {E : zE} (C : zC E 24 cX12_isWord RX12 vsX12_isWord) (hN : zEN E = 12) (ho : zEo E = 137) (hz : zEz E = False) (hRm : zER E = rmX12_isWord) (jq : Nat) (jr : Int → Int) (Rjr : ∀ j, zR (jr j)) (rc : zHp → Int → Int → Option (zHp × (Int))) (res : (zHp × (Int))) (v : zHp) (x11 : Int) (s0 : Int) (K1 : ∀ (w : zHp) (q : Int), res = (w, q) → zV 137 24 w → zR q → zJ E 1 8 24 w jq 8 jr 139 [none, none, none, none, none, none, none, none, none, none, some (zi q), none] []) (hrc0 : True) (h : fX12_isWord_J118 jr rc v x11 s0 = some res) (hv : zV 137 24 v) (Rx11 : zR x11) (Rs0 : zR s0) (hrc : ∀ (v : zHp) (z10 : Int) (z11 : Int), rc v z10 z11 = some res → zV 137 24 v → zR z10 → zR z11 → zJ E 1 8 24 v jq 8 jr 77 [some (zr 137), none, none, none, none, none, none, none, none, some (zs jq), some (zi z10), some (zi z11)] []): zJ E 1 8 24 v jq 8 jr 118 [some (zr 137), none, none, none, none, none, none, none, none, some (zs jq), none, some (zi x11)] [zi s0] := by
  unfold fX12_isWord_J118 at h
  refine y_aload C (zd tX12_isWord 72 rfl) rfl ?_
  refine y_iload C (zd tX12_isWord 73 rfl) rfl ?_
  obtain ⟨q10, h⟩ := zck_some h
  refine y_jld C (M := 8) rfl (by decide) q10 (zd tX12_isWord 74 rfl) ?_
  refine y_icmp_ne (tgt := 130) C Rs0 (Rjr _) (zd tX12_isWord 75 rfl) (by decide) h (fun h => ?_) (fun h => ?_)
  · refine y_iconst C (zd tX12_isWord 78 rfl) ?_
    refine y_istore C (zd tX12_isWord 79 rfl) (by rw [hN]; decide) ?_
    obtain ⟨t11, et11, Rt11, h⟩ := zn_some h
    refine y_iincE C (zd tX12_isWord 80 rfl) (by rw [hN]; decide) rfl et11 ?_
    refine y_goto (tgt := 77) C (zd tX12_isWord 81 rfl) (by decide) ?_
    refine y_sub (lo' := [some (zr 137), none, none, none, none, none, none, none, none, some (zs jq), some (zi 0), some (zi t11)]) (zsub_s (zsub_n (zsub_n (zsub_n (zsub_n (zsub_n (zsub_n (zsub_n (zsub_n (zsub_s (zsub_s (zsub_s zsub_0)))))))))))) ?_
    exact hrc v 0 t11 h hv (zR_c 0 rfl) Rt11
  · refine y_iconst C (zd tX12_isWord 76 rfl) ?_
    refine y_goto (tgt := 131) C (zd tX12_isWord 77 rfl) (by decide) ?_
    refine y_istore C (zd tX12_isWord 79 rfl) (by rw [hN]; decide) ?_
    obtain ⟨t12, et12, Rt12, h⟩ := zn_some h
    refine y_iincE C (zd tX12_isWord 80 rfl) (by rw [hN]; decide) rfl et12 ?_
    refine y_goto (tgt := 77) C (zd tX12_isWord 81 rfl) (by decide) ?_
    refine y_sub (lo' := [some (zr 137), none, none, none, none, none, none, none, none, some (zs jq), some (zi 1), some (zi t12)]) (zsub_s (zsub_n (zsub_n (zsub_n (zsub_n (zsub_n (zsub_n (zsub_n (zsub_n (zsub_s (zsub_s (zsub_s zsub_0)))))))))))) ?_
    exact hrc v 1 t12 h hv (zR_c 1 rfl) Rt12
set_option maxRecDepth 100000 in
set_option maxHeartbeats 4000000 in
theorem bX12_isWord_L77 {E : zE} (C : zC E 24 cX12_isWord RX12 vsX12_isWord) (hN : zEN E = 12) (ho : zEo E = 137) (hz : zEz E = False) (hRm : zER E = rmX12_isWord) (jq : Nat) (jr : Int → Int) (Rjr : ∀ j, zR (jr j)) : ∀ (fu : Nat) (v : zHp) (x10 : Int) (x11 : Int) (res : (zHp × (Int))), fX12_isWord_L77 jr fu v x10 x11 = some res → zV 137 24 v → zR x10 → zR x11 → (∀ (w : zHp) (q : Int), res = (w, q) → zV 137 24 w → zR q → zJ E 1 8 24 w jq 8 jr 139 [none, none, none, none, none, none, none, none, none, none, some (zi q), none] []) → zJ E 1 8 24 v jq 8 jr 77 [some (zr 137), none, none, none, none, none, none, none, none, some (zs jq), some (zi x10), some (zi x11)] [] := by
  intro fu
  induction fu with
  | zero =>
    intro v _ _ res h
    cases h
  | succ fu ih =>
    intro v x10 x11 res h hv Rx10 Rx11 K1
    rw [fX12_isWord_L77.eq_2] at h
    refine y_iload C (zd tX12_isWord 52 rfl) rfl ?_
    refine y_bipush C (by decide) (zd tX12_isWord 53 rfl) ?_
    refine y_icmp_ge (tgt := 139) C Rx11 (zR_c 8 rfl) (zd tX12_isWord 54 rfl) (by decide) h (fun h => ?_) (fun h => ?_)
    · refine y_sub (lo' := [none, none, none, none, none, none, none, none, none, none, some (zi x10), none]) (zsub_n (zsub_n (zsub_n (zsub_n (zsub_n (zsub_n (zsub_n (zsub_n (zsub_n (zsub_n (zsub_s (zsub_n zsub_0)))))))))))) ?_
      exact K1 _ _ (Option.some.inj h).symm hv Rx10
    · refine y_iload C (zd tX12_isWord 55 rfl) rfl ?_
      refine y_if_eq (tgt := 139) C Rx10 (zd tX12_isWord 56 rfl) (by decide) h (fun h => ?_) (fun h => ?_)
      · refine y_sub (lo' := [none, none, none, none, none, none, none, none, none, none, some (zi x10), none]) (zsub_n (zsub_n (zsub_n (zsub_n (zsub_n (zsub_n (zsub_n (zsub_n (zsub_n (zsub_n (zsub_s (zsub_n zsub_0)))))))))))) ?_
        exact K1 _ _ (Option.some.inj h).symm hv Rx10
      · refine y_iload C (zd tX12_isWord 57 rfl) rfl ?_
        refine y_aload_n C (zd tX12_isWord 58 rfl) rfl ?_
        refine yf_12_5 C (lg_137 ho) zic_12 (zm zwd_995) (zd tX12_isWord 59 rfl) ?_
        refine y_aload_n C (zd tX12_isWord 60 rfl) rfl ?_
        refine yf_12_4 C (lg_137 ho) zic_12 (zm zwd_994) (zd tX12_isWord 61 rfl) ?_
        refine y_isub C (zd tX12_isWord 62 rfl) ?_
        obtain ⟨t9, et9, Rt9, h⟩ := zn_some h
        refine y_n0 (congrArg zI et9.symm) ?_
        refine y_icmp_ge (tgt := 117) C Rx11 Rt9 (zd tX12_isWord 63 rfl) (by decide) h (fun h => ?_) (fun h => ?_)
        · refine y_iconst C (zd tX12_isWord 71 rfl) ?_
          refine y_sub (lo' := [some (zr 137), none, none, none, none, none, none, none, none, some (zs jq), none, some (zi x11)]) (zsub_s (zsub_n (zsub_n (zsub_n (zsub_n (zsub_n (zsub_n (zsub_n (zsub_n (zsub_s (zsub_n (zsub_s zsub_0)))))))))))) ?_
          exact jX12_isWord_J118 C hN ho hz hRm jq jr Rjr _ _ v x11 0 K1 trivial h hv Rx11 (zR_c 0 rfl) (fun w z10 z11 hw hvw y10 y11 => ih w z10 z11 _ hw hvw y10 y11 K1)
        · refine y_aload_n C (zd tX12_isWord 64 rfl) rfl ?_
          refine y_aload_n C (zd tX12_isWord 65 rfl) rfl ?_
          refine yf_12_4 C (lg_137 ho) zic_12 (zm zwd_994) (zd tX12_isWord 66 rfl) ?_
          refine y_iload C (zd tX12_isWord 67 rfl) rfl ?_
          refine y_iadd C (zd tX12_isWord 68 rfl) ?_
          obtain ⟨t13, et13, Rt13, h⟩ := zn_some h
          refine y_nk 0 (congrArg zI et13.symm) rfl ?_
          obtain ⟨v14, r15, cv14, h⟩ := zcl_some h
          refine yc_V C ho hz rfl hRm (qX12_byteAt _ _ _ _ Rt13 hv cv14) (lg_137 ho) (by decide) rfl (zgV zwd_1116 zwd_1118 zws_34 zwd_13 zwd_1119) rfl pX12_byteAt rfl ⟨rfl, rfl⟩ ⟨Nat.le_of_ble_eq_true rfl, Nat.le_of_ble_eq_true rfl⟩ ⟨Nat.le_of_ble_eq_true rfl, Nat.le_of_ble_eq_true rfl⟩ [] rfl (Nat.le_of_ble_eq_true rfl) (zd tX12_isWord 69 rfl) [zi r15] rfl (fun p16 => ?_)
          refine y_goto (tgt := 118) C (zd tX12_isWord 70 rfl) (by decide) ?_
          refine y_sub (lo' := [some (zr 137), none, none, none, none, none, none, none, none, some (zs jq), none, some (zi x11)]) (zsub_s (zsub_n (zsub_n (zsub_n (zsub_n (zsub_n (zsub_n (zsub_n (zsub_n (zsub_s (zsub_n (zsub_s zsub_0)))))))))))) ?_
          exact jX12_isWord_J118 C hN ho hz hRm jq jr Rjr _ _ v14 x11 r15 K1 trivial h p16.1 Rx11 p16.2 (fun w z10 z11 hw hvw y10 y11 => ih w z10 z11 _ hw hvw y10 y11 K1)
set_option maxRecDepth 100000 in
set_option maxHeartbeats 4000000 in
theorem jX12_isWord_J72 {E : zE} (C : zC E 24 cX12_isWord RX12 vsX12_isWord) (hN : zEN E = 12) (ho : zEo E = 137) (hz : zEz E = False) (hRm : zER E = rmX12_isWord) (jq : Nat) (jr : Int → Int) (Rjr : ∀ j, zR (jr j)) {v' : zHp} {r' : Int} (ret : zRet E cX12_isWord 1 8 24 (some .boolean) (zV 137 24 v' ∧ zR r') (some (zi r')) v') (v : zHp) (s0 : Int) (h : fX12_isWord_J72 jr v s0 = some (v', r')) (hv : zV 137 24 v) (Rs0 : zR s0) : zJ E 1 8 24 v jq 8 jr 72 [some (zr 137), none, none, none, none, none, none, none, none, some (zs jq), none, none] [zi s0] := by
  unfold fX12_isWord_J72 at h
  refine y_istore C (zd tX12_isWord 49 rfl) (by rw [hN]; decide) ?_
  refine y_iconst C (zd tX12_isWord 50 rfl) ?_
  refine y_istore C (zd tX12_isWord 51 rfl) (by rw [hN]; decide) ?_
  refine y_sub (lo' := [some (zr 137), none, none, none, none, none, none, none, none, some (zs jq), some (zi s0), some (zi 0)]) (zsub_s (zsub_n (zsub_n (zsub_n (zsub_n (zsub_n (zsub_n (zsub_n (zsub_n (zsub_s (zsub_s (zsub_s zsub_0)))))))))))) ?_
  obtain ⟨v17, w18, lv17, h⟩ := zl_some h
  refine bX12_isWord_L77 C hN ho hz hRm jq jr Rjr zFU v s0 0 _ lv17 hv Rs0 (zR_c 0 rfl) (fun w1 q1 e1 hv17 Rw18 => ?_)
  obtain ⟨rfl, rfl⟩ := zpp e1
  refine y_iload C (zd tX12_isWord 82 rfl) rfl ?_
  refine y_drop hz ?_
  obtain ⟨q19, h⟩ := zck_some h
  obtain ⟨rfl, rfl⟩ := zpi h
  exact ret.1 _ _ _ _ ⟨hv17, Rw18⟩ rfl rfl (zbool_n q19) (zd tX12_isWord 83 rfl)
set_option maxRecDepth 100000 in
set_option maxHeartbeats 4000000 in
theorem jX12_isWord_J71 {E : zE} (C : zC E 24 cX12_isWord RX12 vsX12_isWord) (hN : zEN E = 12) (ho : zEo E = 137) (hz : zEz E = False) (hRm : zER E = rmX12_isWord) (jq : Nat) (jr : Int → Int) (Rjr : ∀ j, zR (jr j)) {v' : zHp} {r' : Int} (ret : zRet E cX12_isWord 1 8 24 (some .boolean) (zV 137 24 v' ∧ zR r') (some (zi r')) v') (v : zHp) (h : fX12_isWord_J71 jr v = some (v', r')) (hv : zV 137 24 v) : zJ E 1 8 24 v jq 8 jr 71 [some (zr 137), none, none, none, none, none, none, none, none, some (zs jq), none, none] [] := by
  unfold fX12_isWord_J71 at h
  refine y_iconst C (zd tX12_isWord 48 rfl) ?_
  refine y_sub (lo' := [some (zr 137), none, none, none, none, none, none, none, none, some (zs jq), none, none]) (zsub_s (zsub_n (zsub_n (zsub_n (zsub_n (zsub_n (zsub_n (zsub_n (zsub_n (zsub_s (zsub_n (zsub_n zsub_0)))))))))))) ?_
  exact jX12_isWord_J72 C hN ho hz hRm jq jr Rjr ret v 0 h hv (zR_c 0 rfl)
set_option maxRecDepth 100000 in
set_option maxHeartbeats 4000000 in
theorem qX12_isWord (l : Launch) (D : va_G) (ids : Nat → ClassId) (b : Nat) {x1 : Int} (Rx1 : zR x1) {x2 : Int} (Rx2 : zR x2) {x3 : Int} (Rx3 : zR x3) {x4 : Int} (Rx4 : zR x4) {x5 : Int} (Rx5 : zR x5) {x6 : Int} (Rx6 : zR x6) {x7 : Int} (Rx7 : zR x7) {x8 : Int} (Rx8 : zR x8) {v v' : zHp} {r' : Int} (hv : zV 137 24 v) (h : fX12_isWord v x1 x2 x3 x4 x5 x6 x7 x8 = some (v', r')) : zCT l yX12_isWord vsX12_isWord rmX12_isWord D ids b 137 False 24 [zr 137, zi x1, zi x2, zi x3, zi x4, zi x5, zi x6, zi x7, zi x8] v 24 (zV 137 24 v' ∧ zR r') (some (zi r')) v' 1 8 := by
  refine zMet (own := RX12) (by decide +kernel) (show vsX12_isWord = _ from rfl) (Nat.le_of_ble_eq_true rfl) rfl ?_
  intro E hl hRm hD hids hb ho hz hN C hname ret
  subst hl hD hids hb
  unfold fX12_isWord at h
  refine z_bipush C (by decide) (zd tX12_isWord 0 rfl) ?_
  refine y_new C hz hRm (M := 8) rfl (by decide) (zm zwd_59) (k' := 1) (n' := 8) ⟨rfl, rfl⟩ ⟨Nat.le_of_ble_eq_true rfl, Nat.le_of_ble_eq_true rfl⟩ (zd tX12_isWord 1 rfl) (fun jq => ?_)
  refine y_dup C (zd tX12_isWord 2 rfl) ?_
  refine y_iconst C (zd tX12_isWord 3 rfl) ?_
  refine y_iload_n C (zd tX12_isWord 4 rfl) rfl ?_
  obtain ⟨q1, h⟩ := zck_some h
  refine y_jst C (M := 8) rfl (by decide) q1 (zd tX12_isWord 5 rfl) ?_
  refine y_dup C (zd tX12_isWord 6 rfl) ?_
  refine y_iconst C (zd tX12_isWord 7 rfl) ?_
  refine y_iload_n C (zd tX12_isWord 8 rfl) rfl ?_
  obtain ⟨q2, h⟩ := zck_some h
  refine y_jst C (M := 8) rfl (by decide) q2 (zd tX12_isWord 9 rfl) ?_
  refine y_dup C (zd tX12_isWord 10 rfl) ?_
  refine y_iconst C (zd tX12_isWord 11 rfl) ?_
  refine y_iload_n C (zd tX12_isWord 12 rfl) rfl ?_
  obtain ⟨q3, h⟩ := zck_some h
  refine y_jst C (M := 8) rfl (by decide) q3 (zd tX12_isWord 13 rfl) ?_
  refine y_dup C (zd tX12_isWord 14 rfl) ?_
  refine y_iconst C (zd tX12_isWord 15 rfl) ?_
  refine y_iload C (zd tX12_isWord 16 rfl) rfl ?_
  obtain ⟨q4, h⟩ := zck_some h
  refine y_jst C (M := 8) rfl (by decide) q4 (zd tX12_isWord 17 rfl) ?_
  refine y_dup C (zd tX12_isWord 18 rfl) ?_
  refine y_iconst C (zd tX12_isWord 19 rfl) ?_
  refine y_iload C (zd tX12_isWord 20 rfl) rfl ?_
  obtain ⟨q5, h⟩ := zck_some h
  refine y_jst C (M := 8) rfl (by decide) q5 (zd tX12_isWord 21 rfl) ?_
  refine y_dup C (zd tX12_isWord 22 rfl) ?_
  refine y_iconst C (zd tX12_isWord 23 rfl) ?_
  refine y_iload C (zd tX12_isWord 24 rfl) rfl ?_
  obtain ⟨q6, h⟩ := zck_some h
  refine y_jst C (M := 8) rfl (by decide) q6 (zd tX12_isWord 25 rfl) ?_
  refine y_dup C (zd tX12_isWord 26 rfl) ?_
  refine y_bipush C (by decide) (zd tX12_isWord 27 rfl) ?_
  refine y_iload C (zd tX12_isWord 28 rfl) rfl ?_
  obtain ⟨q7, h⟩ := zck_some h
  refine y_jst C (M := 8) rfl (by decide) q7 (zd tX12_isWord 29 rfl) ?_
  refine y_dup C (zd tX12_isWord 30 rfl) ?_
  refine y_bipush C (by decide) (zd tX12_isWord 31 rfl) ?_
  refine y_iload C (zd tX12_isWord 32 rfl) rfl ?_
  obtain ⟨q8, h⟩ := zck_some h
  refine y_jst C (M := 8) rfl (by decide) q8 (zd tX12_isWord 33 rfl) ?_
  refine y_astore C (zd tX12_isWord 34 rfl) (by rw [hN]; decide) ?_
  refine y_aload_n C (zd tX12_isWord 35 rfl) rfl ?_
  refine yf_12_6 C (lg_137 ho) zic_12 (zm zwd_996) (zd tX12_isWord 36 rfl) ?_
  refine y_iconst C (zd tX12_isWord 37 rfl) ?_
  refine y_icmp_ne (tgt := 71) C (hv.1 _ _) (zR_c 1 rfl) (zd tX12_isWord 38 rfl) (by decide) h (fun h => ?_) (fun h => ?_)
  · refine y_sub (lo' := [some (zr 137), none, none, none, none, none, none, none, none, some (zs jq), none, none]) (zsub_s (zsub_n (zsub_n (zsub_n (zsub_n (zsub_n (zsub_n (zsub_n (zsub_n (zsub_s (zsub_n (zsub_n zsub_0)))))))))))) ?_
    exact jX12_isWord_J71 C hN ho hz hRm jq (zup (zup (zup (zup (zup (zup (zup (zup zf0 0 x1) 1 x2) 2 x3) 3 x4) 4 x5) 5 x6) 6 x7) 7 x8) (zup_R (zup_R (zup_R (zup_R (zup_R (zup_R (zup_R (zup_R zf0_R Rx1) Rx2) Rx3) Rx4) Rx5) Rx6) Rx7) Rx8) ret v h hv
  · refine y_aload_n C (zd tX12_isWord 39 rfl) rfl ?_
    refine yf_12_5 C (lg_137 ho) zic_12 (zm zwd_995) (zd tX12_isWord 40 rfl) ?_
    refine y_aload_n C (zd tX12_isWord 41 rfl) rfl ?_
    refine yf_12_4 C (lg_137 ho) zic_12 (zm zwd_994) (zd tX12_isWord 42 rfl) ?_
    refine y_isub C (zd tX12_isWord 43 rfl) ?_
    refine y_bipush C (by decide) (zd tX12_isWord 44 rfl) ?_
    obtain ⟨t20, et20, Rt20, h⟩ := zn_some h
    refine y_n1 (congrArg zI et20.symm) ?_
    refine y_icmp_gt (tgt := 71) C Rt20 (zR_c 8 rfl) (zd tX12_isWord 45 rfl) (by decide) h (fun h => ?_) (fun h => ?_)
    · refine y_sub (lo' := [some (zr 137), none, none, none, none, none, none, none, none, some (zs jq), none, none]) (zsub_s (zsub_n (zsub_n (zsub_n (zsub_n (zsub_n (zsub_n (zsub_n (zsub_n (zsub_s (zsub_n (zsub_n zsub_0)))))))))))) ?_
      exact jX12_isWord_J71 C hN ho hz hRm jq (zup (zup (zup (zup (zup (zup (zup (zup zf0 0 x1) 1 x2) 2 x3) 3 x4) 4 x5) 5 x6) 6 x7) 7 x8) (zup_R (zup_R (zup_R (zup_R (zup_R (zup_R (zup_R (zup_R zf0_R Rx1) Rx2) Rx3) Rx4) Rx5) Rx6) Rx7) Rx8) ret v h hv
    · refine y_iconst C (zd tX12_isWord 46 rfl) ?_
      refine y_goto (tgt := 72) C (zd tX12_isWord 47 rfl) (by decide) ?_
      refine y_sub (lo' := [some (zr 137), none, none, none, none, none, none, none, none, some (zs jq), none, none]) (zsub_s (zsub_n (zsub_n (zsub_n (zsub_n (zsub_n (zsub_n (zsub_n (zsub_n (zsub_s (zsub_n (zsub_n zsub_0)))))))))))) ?_
      exact jX12_isWord_J72 C hN ho hz hRm jq (zup (zup (zup (zup (zup (zup (zup (zup zf0 0 x1) 1 x2) 2 x3) 3 x4) 4 x5) 5 x6) 6 x7) 7 x8) (zup_R (zup_R (zup_R (zup_R (zup_R (zup_R (zup_R (zup_R zf0_R Rx1) Rx2) Rx3) Rx4) Rx5) Rx6) Rx7) Rx8) ret v 1 h hv (zR_c 1 rfl)
noncomputable def vsX12_number : List Cond := .code yX12_number cX12_number 3 (some .boolean) :: zbig
abbrev rmX12_number : Room := { frames := 2, cells := 0, slots := 0, locals := 43 }
theorem pX12_number : yX12_number.cls = RX12 ∧ yX12_number.cls ≠ "java/lang/invoke/MethodHandle" ∧ yX12_number.cls ≠ "java/lang/invoke/VarHandle" ∧ (parseMethodDescriptor yX12_number.desc).map (fun d => d.parameters.length) = some 2 := by decide +kernel
set_option maxRecDepth 100000 in
set_option maxHeartbeats 4000000 in
theorem qX12_number (l : Launch) (D : va_G) (ids : Nat → ClassId) (b : Nat) {x1 : Int} (Rx1 : zR x1) {x2 : Int} (Rx2 : zR x2) {v v' : zHp} {r' : Int} (hv : zV 137 24 v) (h : fX12_number v x1 x2 = some (v', r')) : zCT l yX12_number vsX12_number rmX12_number D ids b 137 False 24 [zr 137, zi x1, zi x2] v 24 (zV 137 24 v' ∧ zR r') (some (zi r')) v' 0 0 := by
  refine zMet (own := RX12) (by decide +kernel) (show vsX12_number = _ from rfl) (Nat.le_of_ble_eq_true rfl) rfl ?_
  intro E hl hRm hD hids hb ho hz hN C hname ret
  subst hl hD hids hb
  unfold fX12_number at h
  refine z_aload_n C (zd tX12_number 0 rfl) rfl ?_
  refine gf_12_6 C (lg_137 ho) zic_12 (zm zwd_996) (zd tX12_number 1 rfl) ?_
  refine z_iconst C (zd tX12_number 2 rfl) ?_
  refine z_icmp_eq (tgt := 14) C (hv.1 _ _) (zR_c 2 rfl) (zd tX12_number 3 rfl) (by decide) h (fun h => ?_) (fun h => ?_)
  · refine z_aload_n C (zd tX12_number 8 rfl) rfl ?_
    refine gf_12_7 C (lg_137 ho) zic_12 (zm zwd_997) (zd tX12_number 9 rfl) ?_
    refine z_iload_n C (zd tX12_number 10 rfl) rfl ?_
    refine z_iload_n C (zd tX12_number 11 rfl) rfl ?_
    obtain ⟨v1, r2, cv1, h⟩ := zcl_some h
    refine zc_S C ho hz hRm (qX12_within _ _ _ _ (hv.1 _ _) Rx1 Rx2 hv cv1) (zgS zwd_1109 zwd_1110 zwd_13 zwd_1111) rfl pX12_within rfl ⟨rfl, rfl⟩ ⟨Nat.le_of_ble_eq_true rfl, Nat.le_of_ble_eq_true rfl⟩ [] rfl (Nat.le_of_ble_eq_true rfl) (zd tX12_number 12 rfl) [zi r2] rfl (fun p3 => ?_)
    refine z_if_ne (tgt := 32) C p3.2 (zd tX12_number 13 rfl) (by decide) h (fun h => ?_) (fun h => ?_)
    · refine z_aload_n C (zd tX12_number 18 rfl) rfl ?_
      refine z_aload_n C (zd tX12_number 19 rfl) rfl ?_
      refine gf_12_7 C (lg_137 ho) zic_12 (zm zwd_997) (zd tX12_number 20 rfl) ?_
      obtain ⟨v4, ev4, h⟩ := zb_some h
      have hv4 : zV 137 24 v4 := by rw [ev4]; exact p3.1.st (p3.1.1 _ _) (lg_137 ho).1 (Or.inr rfl)
      refine pf_12_9 C (lg_137 ho) zic_12 (zm zwd_999) ev4 (zd tX12_number 21 rfl) ?_
      refine z_aload_n C (zd tX12_number 22 rfl) rfl ?_
      obtain ⟨v5, r6, cv5, h⟩ := zcl_some h
      refine zc_V C ho hz hRm (qX12_go _ _ _ _ hv4 cv5) (lg_137 ho) (by decide) rfl (zgV zwd_1112 zwd_1114 zws_33 zwd_13 zwd_1115) rfl pX12_go rfl ⟨rfl, rfl⟩ ⟨Nat.le_of_ble_eq_true rfl, Nat.le_of_ble_eq_true rfl⟩ [] rfl (Nat.le_of_ble_eq_true rfl) (zd tX12_number 23 rfl) [] rfl (fun p7 => ?_)
      refine z_iconst C (zd tX12_number 24 rfl) ?_
      obtain ⟨rfl, rfl⟩ := zpi h
      exact ret.1 _ _ _ _ ⟨p7, (zR_c 1 rfl)⟩ rfl rfl (by decide) (zd tX12_number 25 rfl)
    · refine z_aload_n C (zd tX12_number 14 rfl) rfl ?_
      refine z_iconst C (zd tX12_number 15 rfl) ?_
      obtain ⟨v8, r9, cv8, h⟩ := zcl_some h
      refine zc_V C ho hz hRm (qX12_bad _ _ _ _ (zR_c 2 rfl) p3.1 cv8) (lg_137 ho) (by decide) rfl (zgV zwd_1137 zwd_1139 zws_39 zwd_13 zwd_1140) rfl pX12_bad rfl ⟨rfl, rfl⟩ ⟨Nat.le_of_ble_eq_true rfl, Nat.le_of_ble_eq_true rfl⟩ [] rfl (Nat.le_of_ble_eq_true rfl) (zd tX12_number 16 rfl) [zi r9] rfl (fun p10 => ?_)
      obtain ⟨q11, h⟩ := zck_some h
      obtain ⟨rfl, rfl⟩ := zpi h
      exact ret.1 _ _ _ _ ⟨p10.1, p10.2⟩ rfl rfl (zbool_n q11) (zd tX12_number 17 rfl)
  · refine z_aload_n C (zd tX12_number 4 rfl) rfl ?_
    refine z_iconst C (zd tX12_number 5 rfl) ?_
    obtain ⟨v12, r13, cv12, h⟩ := zcl_some h
    refine zc_V C ho hz hRm (qX12_bad _ _ _ _ (zR_c 1 rfl) hv cv12) (lg_137 ho) (by decide) rfl (zgV zwd_1137 zwd_1139 zws_39 zwd_13 zwd_1140) rfl pX12_bad rfl ⟨rfl, rfl⟩ ⟨Nat.le_of_ble_eq_true rfl, Nat.le_of_ble_eq_true rfl⟩ [] rfl (Nat.le_of_ble_eq_true rfl) (zd tX12_number 6 rfl) [zi r13] rfl (fun p14 => ?_)
    obtain ⟨q15, h⟩ := zck_some h
    obtain ⟨rfl, rfl⟩ := zpi h
    exact ret.1 _ _ _ _ ⟨p14.1, p14.2⟩ rfl rfl (zbool_n q15) (zd tX12_number 7 rfl)
noncomputable def vsX12_once : List Cond := .code yX12_once cX12_once 2 (some .boolean) :: zbig
abbrev rmX12_once : Room := { frames := 2, cells := 0, slots := 0, locals := 43 }
theorem pX12_once : yX12_once.cls = RX12 ∧ yX12_once.cls ≠ "java/lang/invoke/MethodHandle" ∧ yX12_once.cls ≠ "java/lang/invoke/VarHandle" ∧ (parseMethodDescriptor yX12_once.desc).map (fun d => d.parameters.length) = some 1 := by decide +kernel
set_option maxRecDepth 100000 in
set_option maxHeartbeats 4000000 in
theorem qX12_once (l : Launch) (D : va_G) (ids : Nat → ClassId) (b : Nat) {x1 : Int} (Rx1 : zR x1) {v v' : zHp} {r' : Int} (hv : zV 137 24 v) (h : fX12_once v x1 = some (v', r')) : zCT l yX12_once vsX12_once rmX12_once D ids b 137 False 24 [zr 137, zi x1] v 24 (zV 137 24 v' ∧ zR r') (some (zi r')) v' 0 0 := by
  refine zMet (own := RX12) (by decide +kernel) (show vsX12_once = _ from rfl) (Nat.le_of_ble_eq_true rfl) rfl ?_
  intro E hl hRm hD hids hb ho hz hN C hname ret
  subst hl hD hids hb
  unfold fX12_once at h
  refine z_aload_n C (zd tX12_once 0 rfl) rfl ?_
  refine gf_12_12 C (lg_137 ho) zic_12 (zm zwd_1002) (zd tX12_once 1 rfl) ?_
  refine z_iload_n C (zd tX12_once 2 rfl) rfl ?_
  refine z_ishr C (zd tX12_once 3 rfl) ?_
  refine z_iconst C (zd tX12_once 4 rfl) ?_
  refine z_iand C (zd tX12_once 5 rfl) ?_
  refine z_iconst C (zd tX12_once 6 rfl) ?_
  refine z_icmp_ne (tgt := 18) C (zR_and _ _) (zR_c 1 rfl) (zd tX12_once 7 rfl) (by decide) h (fun h => ?_) (fun h => ?_)
  · refine z_aload_n C (zd tX12_once 12 rfl) rfl ?_
    refine z_dup C (zd tX12_once 13 rfl) ?_
    refine gf_12_12 C (lg_137 ho) zic_12 (zm zwd_1002) (zd tX12_once 14 rfl) ?_
    refine z_iconst C (zd tX12_once 15 rfl) ?_
    refine z_iload_n C (zd tX12_once 16 rfl) rfl ?_
    refine z_ishl C (zd tX12_once 17 rfl) ?_
    refine z_ior C (zd tX12_once 18 rfl) ?_
    obtain ⟨v1, ev1, h⟩ := zb_some h
    have hv1 : zV 137 24 v1 := by rw [ev1]; exact hv.st (zR_or _ _) (lg_137 ho).1 (Or.inr rfl)
    refine pf_12_12 C (lg_137 ho) zic_12 (zm zwd_1002) ev1 (zd tX12_once 19 rfl) ?_
    refine z_aload_n C (zd tX12_once 20 rfl) rfl ?_
    obtain ⟨v2, r3, cv2, h⟩ := zcl_some h
    refine zc_V C ho hz hRm (qX12_go _ _ _ _ hv1 cv2) (lg_137 ho) (by decide) rfl (zgV zwd_1112 zwd_1114 zws_33 zwd_13 zwd_1115) rfl pX12_go rfl ⟨rfl, rfl⟩ ⟨Nat.le_of_ble_eq_true rfl, Nat.le_of_ble_eq_true rfl⟩ [] rfl (Nat.le_of_ble_eq_true rfl) (zd tX12_once 21 rfl) [] rfl (fun p4 => ?_)
    refine z_iconst C (zd tX12_once 22 rfl) ?_
    obtain ⟨rfl, rfl⟩ := zpi h
    exact ret.1 _ _ _ _ ⟨p4, (zR_c 1 rfl)⟩ rfl rfl (by decide) (zd tX12_once 23 rfl)
  · refine z_aload_n C (zd tX12_once 8 rfl) rfl ?_
    refine z_iconst C (zd tX12_once 9 rfl) ?_
    obtain ⟨v5, r6, cv5, h⟩ := zcl_some h
    refine zc_V C ho hz hRm (qX12_bad _ _ _ _ (zR_c 3 rfl) hv cv5) (lg_137 ho) (by decide) rfl (zgV zwd_1137 zwd_1139 zws_39 zwd_13 zwd_1140) rfl pX12_bad rfl ⟨rfl, rfl⟩ ⟨Nat.le_of_ble_eq_true rfl, Nat.le_of_ble_eq_true rfl⟩ [] rfl (Nat.le_of_ble_eq_true rfl) (zd tX12_once 10 rfl) [zi r6] rfl (fun p7 => ?_)
    obtain ⟨q8, h⟩ := zck_some h
    obtain ⟨rfl, rfl⟩ := zpi h
    exact ret.1 _ _ _ _ ⟨p7.1, p7.2⟩ rfl rfl (zbool_n q8) (zd tX12_once 11 rfl)
noncomputable def vsX12_clockLine : List Cond := .code yX12_clockLine cX12_clockLine 2 (some .boolean) :: zbig
abbrev rmX12_clockLine : Room := { frames := 3, cells := 2, slots := 16, locals := 65 }
theorem pX12_clockLine : yX12_clockLine.cls = RX12 ∧ yX12_clockLine.cls ≠ "java/lang/invoke/MethodHandle" ∧ yX12_clockLine.cls ≠ "java/lang/invoke/VarHandle" ∧ (parseMethodDescriptor yX12_clockLine.desc).map (fun d => d.parameters.length) = some 0 := by decide +kernel
set_option maxRecDepth 100000 in
set_option maxHeartbeats 4000000 in
theorem jX12_clockLine_J117 {E : zE} (C : zC E 24 cX12_clockLine RX12 vsX12_clockLine) (hN : zEN E = 2) (ho : zEo E = 137) (hz : zEz E = False) (hRm : zER E = rmX12_clockLine) {v' : zHp} {r' : Int} (ret : zRet E cX12_clockLine 2 16 24 (some .boolean) (zV 137 24 v' ∧ zR r') (some (zi r')) v') (v : zHp) (s1 : Int) (s2 : Int) (h : fX12_clockLine_J117 v s1 s2 = some (v', r')) (hv : zV 137 24 v) (Rs1 : zR s1) (Rs2 : zR s2) : zX E 2 16 24 v 117 [some (zr 137), none] [zi s2, zi s1, zr 140] := by
  unfold fX12_clockLine_J117 at h
  obtain ⟨q17, h⟩ := zck_some h
  obtain ⟨v18, ev18, h⟩ := zb_some h
  have hv18 : zV 137 24 v18 := by rw [ev18]; exact hv.st Rs2 (lg_140 ho).1 (Or.inr rfl)
  refine za_iast C (lg_140 ho) rfl (by decide) q17 ev18 (zd tX12_clockLine 66 rfl) ?_
  refine z_aload_n C (zd tX12_clockLine 67 rfl) rfl ?_
  obtain ⟨v19, r20, cv19, h⟩ := zcl_some h
  refine zc_VA C ho hz hRm (qX12_go _ _ _ _ hv18 cv19) (lg_137 ho) (by decide) rfl (zgV zwd_1112 zwd_1114 zws_33 zwd_13 zwd_1115) rfl pX12_go rfl ⟨rfl, rfl⟩ ⟨Nat.le_of_ble_eq_true rfl, Nat.le_of_ble_eq_true rfl⟩ (k' := 2) (n' := 16) ⟨rfl, rfl⟩ ⟨Nat.le_of_ble_eq_true rfl, Nat.le_of_ble_eq_true rfl⟩ [] rfl (Nat.le_of_ble_eq_true rfl) (zd tX12_clockLine 68 rfl) [] rfl (fun p21 => ?_)
  refine z_iconst C (zd tX12_clockLine 69 rfl) ?_
  obtain ⟨rfl, rfl⟩ := zpi h
  exact ret.1 _ _ _ _ ⟨p21, (zR_c 1 rfl)⟩ rfl rfl (by decide) (zd tX12_clockLine 70 rfl)
set_option maxRecDepth 100000 in
set_option maxHeartbeats 4000000 in
theorem jX12_clockLine_J102 {E : zE} (C : zC E 24 cX12_clockLine RX12 vsX12_clockLine) (hN : zEN E = 2) (ho : zEo E = 137) (hz : zEz E = False) (hRm : zER E = rmX12_clockLine) {v' : zHp} {r' : Int} (ret : zRet E cX12_clockLine 2 16 24 (some .boolean) (zV 137 24 v' ∧ zR r') (some (zi r')) v') (v : zHp) (x1 : Int) (h : fX12_clockLine_J102 v x1 = some (v', r')) (hv : zV 137 24 v) (Rx1 : zR x1) : zX E 2 16 24 v 102 [some (zr 137), some (zi x1)] [] := by
  unfold fX12_clockLine_J102 at h
  refine z_aload_n C (zd tX12_clockLine 58 rfl) rfl ?_
  refine gl_12_11 (t := 140) C (lg_137 ho) zic_12 (zm zwd_1001) (vl_12_11 ho hv (lg_137 ho)) (zd tX12_clockLine 59 rfl) ?_
  refine z_bipush C (by decide) (zd tX12_clockLine 60 rfl) ?_
  refine z_iload_n C (zd tX12_clockLine 61 rfl) rfl ?_
  refine z_if_eq (tgt := 116) C Rx1 (zd tX12_clockLine 62 rfl) (by decide) h (fun h => ?_) (fun h => ?_)
  · refine z_iconst C (zd tX12_clockLine 65 rfl) ?_
    refine z_sub (lo' := [some (zr 137), none]) (zsub_s (zsub_n zsub_0)) ?_
    exact jX12_clockLine_J117 C hN ho hz hRm ret v 7 0 h hv (zR_c 7 rfl) (zR_c 0 rfl)
  · refine z_iconst C (zd tX12_clockLine 63 rfl) ?_
    refine z_goto (tgt := 117) C (zd tX12_clockLine 64 rfl) (by decide) ?_
    refine z_sub (lo' := [some (zr 137), none]) (zsub_s (zsub_n zsub_0)) ?_
    exact jX12_clockLine_J117 C hN ho hz hRm ret v 7 1 h hv (zR_c 7 rfl) (zR_c 1 rfl)
set_option maxRecDepth 100000 in
set_option maxHeartbeats 4000000 in
theorem qX12_clockLine (l : Launch) (D : va_G) (ids : Nat → ClassId) (b : Nat)  {v v' : zHp} {r' : Int} (hv : zV 137 24 v) (h : fX12_clockLine v = some (v', r')) : zCT l yX12_clockLine vsX12_clockLine rmX12_clockLine D ids b 137 False 24 [zr 137] v 24 (zV 137 24 v' ∧ zR r') (some (zi r')) v' 2 16 := by
  refine zMet (own := RX12) (by decide +kernel) (show vsX12_clockLine = _ from rfl) (Nat.le_of_ble_eq_true rfl) rfl ?_
  intro E hl hRm hD hids hb ho hz hN C hname ret
  subst hl hD hids hb
  unfold fX12_clockLine at h
  refine z_aload_n C (zd tX12_clockLine 0 rfl) rfl ?_
  refine z_iconst C (zd tX12_clockLine 1 rfl) ?_
  obtain ⟨v1, r2, cv1, h⟩ := zcl_some h
  refine zc_VA C ho hz hRm (qX12_once _ _ _ _ (zR_c 0 rfl) hv cv1) (lg_137 ho) (by decide) rfl (zgV zwd_1133 zwd_1135 zws_38 zwd_13 zwd_1136) rfl pX12_once rfl ⟨rfl, rfl⟩ ⟨Nat.le_of_ble_eq_true rfl, Nat.le_of_ble_eq_true rfl⟩ (k' := 0) (n' := 0) ⟨rfl, rfl⟩ ⟨Nat.le_of_ble_eq_true rfl, Nat.le_of_ble_eq_true rfl⟩ [] rfl (Nat.le_of_ble_eq_true rfl) (zd tX12_clockLine 2 rfl) [zi r2] rfl (fun p3 => ?_)
  refine z_if_eq (tgt := 18) C p3.2 (zd tX12_clockLine 3 rfl) (by decide) h (fun h => ?_) (fun h => ?_)
  · refine z_iconst C (zd tX12_clockLine 9 rfl) ?_
    refine z_widen (k' := 2) (n' := 16) (by decide) (by decide) ?_
    obtain ⟨rfl, rfl⟩ := zpi h
    exact ret.1 _ _ _ _ ⟨p3.1, (zR_c 0 rfl)⟩ rfl rfl (by decide) (zd tX12_clockLine 10 rfl)
  · refine z_aload_n C (zd tX12_clockLine 4 rfl) rfl ?_
    refine z_iconst C (zd tX12_clockLine 5 rfl) ?_
    refine z_bipush C (by decide) (zd tX12_clockLine 6 rfl) ?_
    obtain ⟨v4, r5, cv4, h⟩ := zcl_some h
    refine zc_VA C ho hz hRm (qX12_number _ _ _ _ (zR_c 0 rfl) (zR_c 27 rfl) p3.1 cv4) (lg_137 ho) (by decide) rfl (zgV zwd_1141 zwd_1143 zws_40 zwd_13 zwd_1144) rfl pX12_number rfl ⟨rfl, rfl⟩ ⟨Nat.le_of_ble_eq_true rfl, Nat.le_of_ble_eq_true rfl⟩ (k' := 0) (n' := 0) ⟨rfl, rfl⟩ ⟨Nat.le_of_ble_eq_true rfl, Nat.le_of_ble_eq_true rfl⟩ [] rfl (Nat.le_of_ble_eq_true rfl) (zd tX12_clockLine 7 rfl) [zi r5] rfl (fun p6 => ?_)
    refine z_if_ne (tgt := 20) C p6.2 (zd tX12_clockLine 8 rfl) (by decide) h (fun h => ?_) (fun h => ?_)
    · refine z_aload_n C (zd tX12_clockLine 11 rfl) rfl ?_
      refine gl_12_11 (t := 140) C (lg_137 ho) zic_12 (zm zwd_1001) (vl_12_11 ho p6.1 (lg_137 ho)) (zd tX12_clockLine 12 rfl) ?_
      refine z_iconst C (zd tX12_clockLine 13 rfl) ?_
      refine z_aload_n C (zd tX12_clockLine 14 rfl) rfl ?_
      refine gf_12_9 C (lg_137 ho) zic_12 (zm zwd_999) (zd tX12_clockLine 15 rfl) ?_
      obtain ⟨q7, h⟩ := zck_some h
      obtain ⟨v8, ev8, h⟩ := zb_some h
      have hv8 : zV 137 24 v8 := by rw [ev8]; exact p6.1.st (p6.1.1 _ _) (lg_140 ho).1 (Or.inr rfl)
      refine za_iast C (lg_140 ho) rfl (by decide) q7 ev8 (zd tX12_clockLine 16 rfl) ?_
      refine z_aload_n C (zd tX12_clockLine 17 rfl) rfl ?_
      refine z_iconst C (zd tX12_clockLine 18 rfl) ?_
      refine z_bipush C (by decide) (zd tX12_clockLine 19 rfl) ?_
      obtain ⟨v9, r10, cv9, h⟩ := zcl_some h
      refine zc_VA C ho hz hRm (qX12_number _ _ _ _ (zR_c 0 rfl) (zR_c 23 rfl) hv8 cv9) (lg_137 ho) (by decide) rfl (zgV zwd_1141 zwd_1143 zws_40 zwd_13 zwd_1144) rfl pX12_number rfl ⟨rfl, rfl⟩ ⟨Nat.le_of_ble_eq_true rfl, Nat.le_of_ble_eq_true rfl⟩ (k' := 0) (n' := 0) ⟨rfl, rfl⟩ ⟨Nat.le_of_ble_eq_true rfl, Nat.le_of_ble_eq_true rfl⟩ [] rfl (Nat.le_of_ble_eq_true rfl) (zd tX12_clockLine 20 rfl) [zi r10] rfl (fun p11 => ?_)
      refine z_if_ne (tgt := 42) C p11.2 (zd tX12_clockLine 21 rfl) (by decide) h (fun h => ?_) (fun h => ?_)
      · refine z_aload_n C (zd tX12_clockLine 24 rfl) rfl ?_
        refine gl_12_11 (t := 140) C (lg_137 ho) zic_12 (zm zwd_1001) (vl_12_11 ho p11.1 (lg_137 ho)) (zd tX12_clockLine 25 rfl) ?_
        refine z_bipush C (by decide) (zd tX12_clockLine 26 rfl) ?_
        refine z_aload_n C (zd tX12_clockLine 27 rfl) rfl ?_
        refine gf_12_9 C (lg_137 ho) zic_12 (zm zwd_999) (zd tX12_clockLine 28 rfl) ?_
        obtain ⟨q12, h⟩ := zck_some h
        obtain ⟨v13, ev13, h⟩ := zb_some h
        have hv13 : zV 137 24 v13 := by rw [ev13]; exact p11.1.st (p11.1.1 _ _) (lg_140 ho).1 (Or.inr rfl)
        refine za_iast C (lg_140 ho) rfl (by decide) q12 ev13 (zd tX12_clockLine 29 rfl) ?_
        refine z_aload_n C (zd tX12_clockLine 30 rfl) rfl ?_
        refine z_bipush C (by decide) (zd tX12_clockLine 31 rfl) ?_
        refine z_bipush C (by decide) (zd tX12_clockLine 32 rfl) ?_
        refine z_bipush C (by decide) (zd tX12_clockLine 33 rfl) ?_
        refine z_bipush C (by decide) (zd tX12_clockLine 34 rfl) ?_
        refine z_bipush C (by decide) (zd tX12_clockLine 35 rfl) ?_
        refine z_bipush C (by decide) (zd tX12_clockLine 36 rfl) ?_
        refine z_bipush C (by decide) (zd tX12_clockLine 37 rfl) ?_
        refine z_iconst C (zd tX12_clockLine 38 rfl) ?_
        obtain ⟨v14, r15, cv14, h⟩ := zcl_some h
        refine zc_VA C ho hz hRm (qX12_isWord _ _ _ _ (zR_c 102 rfl) (zR_c 111 rfl) (zR_c 114 rfl) (zR_c 119 rfl) (zR_c 97 rfl) (zR_c 114 rfl) (zR_c 100 rfl) (zR_c 0 rfl) hv13 cv14) (lg_137 ho) (by decide) rfl (zgV zwd_1125 zwd_1127 zws_36 zwd_13 zwd_1128) rfl pX12_isWord rfl ⟨rfl, rfl⟩ ⟨Nat.le_of_ble_eq_true rfl, Nat.le_of_ble_eq_true rfl⟩ (k' := 1) (n' := 8) ⟨rfl, rfl⟩ ⟨Nat.le_of_ble_eq_true rfl, Nat.le_of_ble_eq_true rfl⟩ [] rfl (Nat.le_of_ble_eq_true rfl) (zd tX12_clockLine 39 rfl) [zi r15] rfl (fun p16 => ?_)
        refine z_istore_n C (zd tX12_clockLine 40 rfl) (by rw [hN]; decide) ?_
        refine z_iload_n C (zd tX12_clockLine 41 rfl) rfl ?_
        refine z_if_ne (tgt := 102) C p16.2 (zd tX12_clockLine 42 rfl) (by decide) h (fun h => ?_) (fun h => ?_)
        · refine z_widen (k' := 2) (n' := 16) (by decide) (by decide) ?_
          refine z_sub (lo' := [some (zr 137), some (zi r15)]) (zsub_s (zsub_s zsub_0)) ?_
          exact jX12_clockLine_J102 C hN ho hz hRm ret v14 r15 h p16.1 p16.2
        · refine z_aload_n C (zd tX12_clockLine 43 rfl) rfl ?_
          refine z_bipush C (by decide) (zd tX12_clockLine 44 rfl) ?_
          refine z_bipush C (by decide) (zd tX12_clockLine 45 rfl) ?_
          refine z_bipush C (by decide) (zd tX12_clockLine 46 rfl) ?_
          refine z_bipush C (by decide) (zd tX12_clockLine 47 rfl) ?_
          refine z_iconst C (zd tX12_clockLine 48 rfl) ?_
          refine z_iconst C (zd tX12_clockLine 49 rfl) ?_
          refine z_iconst C (zd tX12_clockLine 50 rfl) ?_
          refine z_iconst C (zd tX12_clockLine 51 rfl) ?_
          obtain ⟨v22, r23, cv22, h⟩ := zcl_some h
          refine zc_VA C ho hz hRm (qX12_isWord _ _ _ _ (zR_c 98 rfl) (zR_c 97 rfl) (zR_c 99 rfl) (zR_c 107 rfl) (zR_c 0 rfl) (zR_c 0 rfl) (zR_c 0 rfl) (zR_c 0 rfl) p16.1 cv22) (lg_137 ho) (by decide) rfl (zgV zwd_1125 zwd_1127 zws_36 zwd_13 zwd_1128) rfl pX12_isWord rfl ⟨rfl, rfl⟩ ⟨Nat.le_of_ble_eq_true rfl, Nat.le_of_ble_eq_true rfl⟩ (k' := 2) (n' := 16) ⟨rfl, rfl⟩ ⟨Nat.le_of_ble_eq_true rfl, Nat.le_of_ble_eq_true rfl⟩ [] rfl (Nat.le_of_ble_eq_true rfl) (zd tX12_clockLine 52 rfl) [zi r23] rfl (fun p24 => ?_)
          refine z_if_ne (tgt := 102) C p24.2 (zd tX12_clockLine 53 rfl) (by decide) h (fun h => ?_) (fun h => ?_)
          · refine z_sub (lo' := [some (zr 137), some (zi r15)]) (zsub_s (zsub_s zsub_0)) ?_
            exact jX12_clockLine_J102 C hN ho hz hRm ret v22 r15 h p24.1 p16.2
          · refine z_aload_n C (zd tX12_clockLine 54 rfl) rfl ?_
            refine z_iconst C (zd tX12_clockLine 55 rfl) ?_
            obtain ⟨v25, r26, cv25, h⟩ := zcl_some h
            refine zc_VA C ho hz hRm (qX12_bad _ _ _ _ (zR_c 1 rfl) p24.1 cv25) (lg_137 ho) (by decide) rfl (zgV zwd_1137 zwd_1139 zws_39 zwd_13 zwd_1140) rfl pX12_bad rfl ⟨rfl, rfl⟩ ⟨Nat.le_of_ble_eq_true rfl, Nat.le_of_ble_eq_true rfl⟩ (k' := 2) (n' := 16) ⟨rfl, rfl⟩ ⟨Nat.le_of_ble_eq_true rfl, Nat.le_of_ble_eq_true rfl⟩ [] rfl (Nat.le_of_ble_eq_true rfl) (zd tX12_clockLine 56 rfl) [zi r26] rfl (fun p27 => ?_)
            obtain ⟨q28, h⟩ := zck_some h
            obtain ⟨rfl, rfl⟩ := zpi h
            exact ret.1 _ _ _ _ ⟨p27.1, p27.2⟩ rfl rfl (zbool_n q28) (zd tX12_clockLine 57 rfl)
      · refine z_iconst C (zd tX12_clockLine 22 rfl) ?_
        refine z_widen (k' := 2) (n' := 16) (by decide) (by decide) ?_
        obtain ⟨rfl, rfl⟩ := zpi h
        exact ret.1 _ _ _ _ ⟨p11.1, (zR_c 0 rfl)⟩ rfl rfl (by decide) (zd tX12_clockLine 23 rfl)
    · refine z_iconst C (zd tX12_clockLine 9 rfl) ?_
      refine z_widen (k' := 2) (n' := 16) (by decide) (by decide) ?_
      obtain ⟨rfl, rfl⟩ := zpi h
      exact ret.1 _ _ _ _ ⟨p6.1, (zR_c 0 rfl)⟩ rfl rfl (by decide) (zd tX12_clockLine 10 rfl)
noncomputable def vsX12_comes : List Cond := .code yX12_comes cX12_comes 5 none :: zbig
abbrev rmX12_comes : Room := { frames := 0, cells := 0, slots := 0, locals := 0 }
theorem pX12_comes : yX12_comes.cls = RX12 ∧ yX12_comes.cls ≠ "java/lang/invoke/MethodHandle" ∧ yX12_comes.cls ≠ "java/lang/invoke/VarHandle" ∧ (parseMethodDescriptor yX12_comes.desc).map (fun d => d.parameters.length) = some 3 := by decide +kernel
set_option maxRecDepth 100000 in
set_option maxHeartbeats 4000000 in
theorem bX12_comes_L8 {E : zE} (C : zC E 24 cX12_comes RX12 vsX12_comes) (hN : zEN E = 5) (ho : zEo E = 137) (hz : zEz E = False) (hRm : zER E = rmX12_comes) : ∀ (fu : Nat) (v : zHp) (x1 : Int) (x2 : Int) (x3 : Int) (x4 : Int) (res : (zHp × (Int))), fX12_comes_L8 fu v x1 x2 x3 x4 = some res → zV 137 24 v → zR x1 → zR x2 → zR x3 → zR x4 → (∀ (w : zHp) (q : Int), res = (w, q) → zV 137 24 w → zR q → zX E 0 0 24 w 89 [some (zr 137), some (zi x1), some (zi x2), some (zi x3), some (zi q)] []) → zX E 0 0 24 v 8 [some (zr 137), some (zi x1), some (zi x2), some (zi x3), some (zi x4)] [] := by
  intro fu
  induction fu with
  | zero =>
    intro v _ _ _ _ res h
    cases h
  | succ fu ih =>
    intro v x1 x2 x3 x4 res h hv Rx1 Rx2 Rx3 Rx4 K1
    rw [fX12_comes_L8.eq_2] at h
    refine z_iload C (zd tX12_comes 5 rfl) rfl ?_
    refine z_if_le (tgt := 89) C Rx4 (zd tX12_comes 6 rfl) (by decide) h (fun h => ?_) (fun h => ?_)
    · refine z_sub (lo' := [some (zr 137), some (zi x1), some (zi x2), some (zi x3), some (zi x4)]) (zsub_s (zsub_s (zsub_s (zsub_s (zsub_s zsub_0))))) ?_
      exact K1 _ _ (Option.some.inj h).symm hv Rx4
    · refine z_aload_n C (zd tX12_comes 7 rfl) rfl ?_
      refine gl_12_14 (t := 142) C (lg_137 ho) zic_12 (zm zwd_1004) (vl_12_14 ho hv (lg_137 ho)) (zd tX12_comes 8 rfl) ?_
      refine z_bipush C (by decide) (zd tX12_comes 9 rfl) ?_
      refine z_iload_n C (zd tX12_comes 10 rfl) rfl ?_
      refine z_imul C (zd tX12_comes 11 rfl) ?_
      refine z_iload C (zd tX12_comes 12 rfl) rfl ?_
      refine z_iadd C (zd tX12_comes 13 rfl) ?_
      refine z_iconst C (zd tX12_comes 14 rfl) ?_
      refine z_isub C (zd tX12_comes 15 rfl) ?_
      obtain ⟨q2, h⟩ := zck_some h
      refine za_iald C (lg_142 ho) rfl (by decide) q2 (zd tX12_comes 16 rfl) ?_
      refine z_iload_n C (zd tX12_comes 17 rfl) rfl ?_
      refine z_icmp_le (tgt := 89) C (hv.1 _ _) Rx2 (zd tX12_comes 18 rfl) (by decide) h (fun h => ?_) (fun h => ?_)
      · refine z_sub (lo' := [some (zr 137), some (zi x1), some (zi x2), some (zi x3), some (zi x4)]) (zsub_s (zsub_s (zsub_s (zsub_s (zsub_s zsub_0))))) ?_
        exact K1 _ _ (Option.some.inj h).symm hv Rx4
      · refine z_aload_n C (zd tX12_comes 19 rfl) rfl ?_
        refine gl_12_14 (t := 142) C (lg_137 ho) zic_12 (zm zwd_1004) (vl_12_14 ho hv (lg_137 ho)) (zd tX12_comes 20 rfl) ?_
        refine z_bipush C (by decide) (zd tX12_comes 21 rfl) ?_
        refine z_iload_n C (zd tX12_comes 22 rfl) rfl ?_
        refine z_imul C (zd tX12_comes 23 rfl) ?_
        refine z_iload C (zd tX12_comes 24 rfl) rfl ?_
        refine z_iadd C (zd tX12_comes 25 rfl) ?_
        refine z_aload_n C (zd tX12_comes 26 rfl) rfl ?_
        refine gl_12_14 (t := 142) C (lg_137 ho) zic_12 (zm zwd_1004) (vl_12_14 ho hv (lg_137 ho)) (zd tX12_comes 27 rfl) ?_
        refine z_bipush C (by decide) (zd tX12_comes 28 rfl) ?_
        refine z_iload_n C (zd tX12_comes 29 rfl) rfl ?_
        refine z_imul C (zd tX12_comes 30 rfl) ?_
        refine z_iload C (zd tX12_comes 31 rfl) rfl ?_
        refine z_iadd C (zd tX12_comes 32 rfl) ?_
        refine z_iconst C (zd tX12_comes 33 rfl) ?_
        refine z_isub C (zd tX12_comes 34 rfl) ?_
        obtain ⟨q3, h⟩ := zck_some h
        refine za_iald C (lg_142 ho) rfl (by decide) q3 (zd tX12_comes 35 rfl) ?_
        obtain ⟨q4, h⟩ := zck_some h
        obtain ⟨v5, ev5, h⟩ := zb_some h
        have hv5 : zV 137 24 v5 := by rw [ev5]; exact hv.st (hv.1 _ _) (lg_142 ho).1 (Or.inr rfl)
        refine za_iast C (lg_142 ho) rfl (by decide) q4 ev5 (zd tX12_comes 36 rfl) ?_
        refine z_aload_n C (zd tX12_comes 37 rfl) rfl ?_
        refine gl_12_15 (t := 143) C (lg_137 ho) zic_12 (zm zwd_1005) (vl_12_15 ho hv5 (lg_137 ho)) (zd tX12_comes 38 rfl) ?_
        refine z_bipush C (by decide) (zd tX12_comes 39 rfl) ?_
        refine z_iload_n C (zd tX12_comes 40 rfl) rfl ?_
        refine z_imul C (zd tX12_comes 41 rfl) ?_
        refine z_iload C (zd tX12_comes 42 rfl) rfl ?_
        refine z_iadd C (zd tX12_comes 43 rfl) ?_
        refine z_aload_n C (zd tX12_comes 44 rfl) rfl ?_
        refine gl_12_15 (t := 143) C (lg_137 ho) zic_12 (zm zwd_1005) (vl_12_15 ho hv5 (lg_137 ho)) (zd tX12_comes 45 rfl) ?_
        refine z_bipush C (by decide) (zd tX12_comes 46 rfl) ?_
        refine z_iload_n C (zd tX12_comes 47 rfl) rfl ?_
        refine z_imul C (zd tX12_comes 48 rfl) ?_
        refine z_iload C (zd tX12_comes 49 rfl) rfl ?_
        refine z_iadd C (zd tX12_comes 50 rfl) ?_
        refine z_iconst C (zd tX12_comes 51 rfl) ?_
        refine z_isub C (zd tX12_comes 52 rfl) ?_
        obtain ⟨q6, h⟩ := zck_some h
        refine za_iald C (lg_143 ho) rfl (by decide) q6 (zd tX12_comes 53 rfl) ?_
        obtain ⟨q7, h⟩ := zck_some h
        obtain ⟨v8, ev8, h⟩ := zb_some h
        have hv8 : zV 137 24 v8 := by rw [ev8]; exact hv5.st (hv5.1 _ _) (lg_143 ho).1 (Or.inr rfl)
        refine za_iast C (lg_143 ho) rfl (by decide) q7 ev8 (zd tX12_comes 54 rfl) ?_
        obtain ⟨t9, et9, Rt9, h⟩ := zn_some h
        refine z_iincE C (zd tX12_comes 55 rfl) (by rw [hN]; decide) rfl et9 ?_
        refine z_goto (tgt := 8) C (zd tX12_comes 56 rfl) (by decide) ?_
        refine z_sub (lo' := [some (zr 137), some (zi x1), some (zi x2), some (zi x3), some (zi t9)]) (zsub_s (zsub_s (zsub_s (zsub_s (zsub_s zsub_0))))) ?_
        exact ih v8 x1 x2 x3 t9 _ h hv8 Rx1 Rx2 Rx3 Rt9 K1
set_option maxRecDepth 100000 in
set_option maxHeartbeats 4000000 in
theorem qX12_comes (l : Launch) (D : va_G) (ids : Nat → ClassId) (b : Nat) {x1 : Int} (Rx1 : zR x1) {x2 : Int} (Rx2 : zR x2) {x3 : Int} (Rx3 : zR x3) {v v' : zHp} {r' : Int} (hv : zV 137 24 v) (h : fX12_comes v x1 x2 x3 = some (v', r')) : zCT l yX12_comes vsX12_comes rmX12_comes D ids b 137 False 24 [zr 137, zi x1, zi x2, zi x3] v 24 (zV 137 24 v') none v' 0 0 := by
  refine zMet (own := RX12) (by decide +kernel) (show vsX12_comes = _ from rfl) (Nat.le_of_ble_eq_true rfl) rfl ?_
  intro E hl hRm hD hids hb ho hz hN C hname ret
  subst hl hD hids hb
  unfold fX12_comes at h
  refine z_aload_n C (zd tX12_comes 0 rfl) rfl ?_
  refine gl_12_13 (t := 141) C (lg_137 ho) zic_12 (zm zwd_1003) (vl_12_13 ho hv (lg_137 ho)) (zd tX12_comes 1 rfl) ?_
  refine z_iload_n C (zd tX12_comes 2 rfl) rfl ?_
  obtain ⟨q1, h⟩ := zck_some h
  refine za_iald C (lg_141 ho) rfl (by decide) q1 (zd tX12_comes 3 rfl) ?_
  refine z_istore C (zd tX12_comes 4 rfl) (by rw [hN]; decide) ?_
  refine z_sub (lo' := [some (zr 137), some (zi x1), some (zi x2), some (zi x3), some (zi (v 141 x1))]) (zsub_s (zsub_s (zsub_s (zsub_s (zsub_s zsub_0))))) ?_
  obtain ⟨v10, w11, lv10, h⟩ := zl_some h
  refine bX12_comes_L8 C hN ho hz hRm zFU v x1 x2 x3 (v 141 x1) _ lv10 hv Rx1 Rx2 Rx3 (hv.1 _ _) (fun w1 q1 e1 hv10 Rw11 => ?_)
  obtain ⟨rfl, rfl⟩ := zpp e1
  refine z_aload_n C (zd tX12_comes 57 rfl) rfl ?_
  refine gl_12_14 (t := 142) C (lg_137 ho) zic_12 (zm zwd_1004) (vl_12_14 ho hv10 (lg_137 ho)) (zd tX12_comes 58 rfl) ?_
  refine z_bipush C (by decide) (zd tX12_comes 59 rfl) ?_
  refine z_iload_n C (zd tX12_comes 60 rfl) rfl ?_
  refine z_imul C (zd tX12_comes 61 rfl) ?_
  refine z_iload C (zd tX12_comes 62 rfl) rfl ?_
  refine z_iadd C (zd tX12_comes 63 rfl) ?_
  refine z_iload_n C (zd tX12_comes 64 rfl) rfl ?_
  obtain ⟨q12, h⟩ := zck_some h
  obtain ⟨v13, ev13, h⟩ := zb_some h
  have hv13 : zV 137 24 v13 := by rw [ev13]; exact hv10.st Rx2 (lg_142 ho).1 (Or.inr rfl)
  refine za_iast C (lg_142 ho) rfl (by decide) q12 ev13 (zd tX12_comes 65 rfl) ?_
  refine z_aload_n C (zd tX12_comes 66 rfl) rfl ?_
  refine gl_12_15 (t := 143) C (lg_137 ho) zic_12 (zm zwd_1005) (vl_12_15 ho hv13 (lg_137 ho)) (zd tX12_comes 67 rfl) ?_
  refine z_bipush C (by decide) (zd tX12_comes 68 rfl) ?_
  refine z_iload_n C (zd tX12_comes 69 rfl) rfl ?_
  refine z_imul C (zd tX12_comes 70 rfl) ?_
  refine z_iload C (zd tX12_comes 71 rfl) rfl ?_
  refine z_iadd C (zd tX12_comes 72 rfl) ?_
  refine z_iload_n C (zd tX12_comes 73 rfl) rfl ?_
  obtain ⟨q14, h⟩ := zck_some h
  obtain ⟨v15, ev15, h⟩ := zb_some h
  have hv15 : zV 137 24 v15 := by rw [ev15]; exact hv13.st Rx3 (lg_143 ho).1 (Or.inr rfl)
  refine za_iast C (lg_143 ho) rfl (by decide) q14 ev15 (zd tX12_comes 74 rfl) ?_
  refine z_aload_n C (zd tX12_comes 75 rfl) rfl ?_
  refine gl_12_13 (t := 141) C (lg_137 ho) zic_12 (zm zwd_1003) (vl_12_13 ho hv15 (lg_137 ho)) (zd tX12_comes 76 rfl) ?_
  refine z_iload_n C (zd tX12_comes 77 rfl) rfl ?_
  refine z_dup2 C (zd tX12_comes 78 rfl) ?_
  obtain ⟨q16, h⟩ := zck_some h
  refine za_iald C (lg_141 ho) rfl (by decide) q16 (zd tX12_comes 79 rfl) ?_
  refine z_iconst C (zd tX12_comes 80 rfl) ?_
  refine z_iadd C (zd tX12_comes 81 rfl) ?_
  obtain ⟨t17, et17, Rt17, h⟩ := zn_some h
  refine z_n0 (congrArg zI et17.symm) ?_
  obtain ⟨q18, h⟩ := zck_some h
  obtain ⟨v19, ev19, h⟩ := zb_some h
  have hv19 : zV 137 24 v19 := by rw [ev19]; exact hv15.st Rt17 (lg_141 ho).1 (Or.inr rfl)
  refine za_iast C (lg_141 ho) rfl (by decide) q18 ev19 (zd tX12_comes 82 rfl) ?_
  obtain ⟨rfl, rfl⟩ := zpi h
  exact ret.2.1 _ _ hv19 rfl rfl (zd tX12_comes 83 rfl)
noncomputable def vsX12_count : List Cond := .code yX12_count cX12_count 2 (some .int) :: zbig
abbrev rmX12_count : Room := { frames := 0, cells := 0, slots := 0, locals := 0 }
theorem pX12_count : yX12_count.cls = RX12 ∧ yX12_count.cls ≠ "java/lang/invoke/MethodHandle" ∧ yX12_count.cls ≠ "java/lang/invoke/VarHandle" ∧ (parseMethodDescriptor yX12_count.desc).map (fun d => d.parameters.length) = some 1 := by decide +kernel
set_option maxRecDepth 100000 in
set_option maxHeartbeats 4000000 in
theorem qX12_count (l : Launch) (D : va_G) (ids : Nat → ClassId) (b : Nat) {x1 : Int} (Rx1 : zR x1) {v v' : zHp} {r' : Int} (hv : zV 137 24 v) (h : fX12_count v x1 = some (v', r')) : zCT l yX12_count vsX12_count rmX12_count D ids b 137 False 24 [zr 137, zi x1] v 24 (zV 137 24 v' ∧ zR r') (some (zi r')) v' 0 0 := by
  refine zMet (own := RX12) (by decide +kernel) (show vsX12_count = _ from rfl) (Nat.le_of_ble_eq_true rfl) rfl ?_
  intro E hl hRm hD hids hb ho hz hN C hname ret
  subst hl hD hids hb
  unfold fX12_count at h
  refine z_aload_n C (zd tX12_count 0 rfl) rfl ?_
  refine z_iconst C (zd tX12_count 1 rfl) ?_
  obtain ⟨v1, ev1, h⟩ := zb_some h
  have hv1 : zV 137 24 v1 := by rw [ev1]; exact hv.st (zR_c 0 rfl) (lg_137 ho).1 (Or.inr rfl)
  refine pf_12_0 C (lg_137 ho) zic_12 (zm zwd_990) ev1 (zd tX12_count 2 rfl) ?_
  refine z_iload_n C (zd tX12_count 3 rfl) rfl ?_
  by_cases c6_0 : x1 = 0
  · rw [if_pos c6_0] at h
    refine z_tblIn (tgt := 68) C Rx1 c6_0 (zd tX12_count 4 rfl) (by decide) (by decide) rfl (by decide) ?_
    refine z_aload_n C (zd tX12_count 5 rfl) rfl ?_
    refine gl_12_10 (t := 139) C (lg_137 ho) zic_12 (zm zwd_1000) (vl_12_10 ho hv1 (lg_137 ho)) (zd tX12_count 6 rfl) ?_
    refine z_bipush C (by decide) (zd tX12_count 7 rfl) ?_
    obtain ⟨q2, h⟩ := zck_some h
    refine za_iald C (lg_139 ho) rfl (by decide) q2 (zd tX12_count 8 rfl) ?_
    obtain ⟨rfl, rfl⟩ := zpi h
    exact ret.1 _ _ _ _ ⟨hv1, (hv1.1 _ _)⟩ rfl rfl rfl (zd tX12_count 9 rfl)
  rw [if_neg c6_0] at h
  by_cases c6_1 : x1 = 1
  · rw [if_pos c6_1] at h
    refine z_tblIn (tgt := 76) C Rx1 c6_1 (zd tX12_count 4 rfl) (by decide) (by decide) rfl (by decide) ?_
    refine z_aload_n C (zd tX12_count 10 rfl) rfl ?_
    refine gl_12_10 (t := 139) C (lg_137 ho) zic_12 (zm zwd_1000) (vl_12_10 ho hv1 (lg_137 ho)) (zd tX12_count 11 rfl) ?_
    refine z_bipush C (by decide) (zd tX12_count 12 rfl) ?_
    obtain ⟨q3, h⟩ := zck_some h
    refine za_iald C (lg_139 ho) rfl (by decide) q3 (zd tX12_count 13 rfl) ?_
    obtain ⟨rfl, rfl⟩ := zpi h
    exact ret.1 _ _ _ _ ⟨hv1, (hv1.1 _ _)⟩ rfl rfl rfl (zd tX12_count 14 rfl)
  rw [if_neg c6_1] at h
  by_cases c6_2 : x1 = 2
  · rw [if_pos c6_2] at h
    refine z_tblIn (tgt := 84) C Rx1 c6_2 (zd tX12_count 4 rfl) (by decide) (by decide) rfl (by decide) ?_
    refine z_aload_n C (zd tX12_count 15 rfl) rfl ?_
    refine gl_12_10 (t := 139) C (lg_137 ho) zic_12 (zm zwd_1000) (vl_12_10 ho hv1 (lg_137 ho)) (zd tX12_count 16 rfl) ?_
    refine z_iconst C (zd tX12_count 17 rfl) ?_
    obtain ⟨q4, h⟩ := zck_some h
    refine za_iald C (lg_139 ho) rfl (by decide) q4 (zd tX12_count 18 rfl) ?_
    obtain ⟨rfl, rfl⟩ := zpi h
    exact ret.1 _ _ _ _ ⟨hv1, (hv1.1 _ _)⟩ rfl rfl rfl (zd tX12_count 19 rfl)
  rw [if_neg c6_2] at h
  by_cases c6_3 : x1 = 3
  · rw [if_pos c6_3] at h
    refine z_tblIn (tgt := 91) C Rx1 c6_3 (zd tX12_count 4 rfl) (by decide) (by decide) rfl (by decide) ?_
    refine z_aload_n C (zd tX12_count 20 rfl) rfl ?_
    refine gl_12_10 (t := 139) C (lg_137 ho) zic_12 (zm zwd_1000) (vl_12_10 ho hv1 (lg_137 ho)) (zd tX12_count 21 rfl) ?_
    refine z_iconst C (zd tX12_count 22 rfl) ?_
    obtain ⟨q5, h⟩ := zck_some h
    refine za_iald C (lg_139 ho) rfl (by decide) q5 (zd tX12_count 23 rfl) ?_
    obtain ⟨rfl, rfl⟩ := zpi h
    exact ret.1 _ _ _ _ ⟨hv1, (hv1.1 _ _)⟩ rfl rfl rfl (zd tX12_count 24 rfl)
  rw [if_neg c6_3] at h
  by_cases c6_4 : x1 = 4
  · rw [if_pos c6_4] at h
    refine z_tblIn (tgt := 98) C Rx1 c6_4 (zd tX12_count 4 rfl) (by decide) (by decide) rfl (by decide) ?_
    refine z_aload_n C (zd tX12_count 25 rfl) rfl ?_
    refine gl_12_10 (t := 139) C (lg_137 ho) zic_12 (zm zwd_1000) (vl_12_10 ho hv1 (lg_137 ho)) (zd tX12_count 26 rfl) ?_
    refine z_iconst C (zd tX12_count 27 rfl) ?_
    obtain ⟨q6, h⟩ := zck_some h
    refine za_iald C (lg_139 ho) rfl (by decide) q6 (zd tX12_count 28 rfl) ?_
    obtain ⟨rfl, rfl⟩ := zpi h
    exact ret.1 _ _ _ _ ⟨hv1, (hv1.1 _ _)⟩ rfl rfl rfl (zd tX12_count 29 rfl)
  rw [if_neg c6_4] at h
  by_cases c6_5 : x1 = 5
  · rw [if_pos c6_5] at h
    refine z_tblIn (tgt := 105) C Rx1 c6_5 (zd tX12_count 4 rfl) (by decide) (by decide) rfl (by decide) ?_
    refine z_aload_n C (zd tX12_count 30 rfl) rfl ?_
    refine gl_12_10 (t := 139) C (lg_137 ho) zic_12 (zm zwd_1000) (vl_12_10 ho hv1 (lg_137 ho)) (zd tX12_count 31 rfl) ?_
    refine z_iconst C (zd tX12_count 32 rfl) ?_
    obtain ⟨q7, h⟩ := zck_some h
    refine za_iald C (lg_139 ho) rfl (by decide) q7 (zd tX12_count 33 rfl) ?_
    obtain ⟨rfl, rfl⟩ := zpi h
    exact ret.1 _ _ _ _ ⟨hv1, (hv1.1 _ _)⟩ rfl rfl rfl (zd tX12_count 34 rfl)
  rw [if_neg c6_5] at h
  by_cases c6_6 : x1 = 6
  · rw [if_pos c6_6] at h
    refine z_tblIn (tgt := 112) C Rx1 c6_6 (zd tX12_count 4 rfl) (by decide) (by decide) rfl (by decide) ?_
    refine z_aload_n C (zd tX12_count 35 rfl) rfl ?_
    refine gl_12_10 (t := 139) C (lg_137 ho) zic_12 (zm zwd_1000) (vl_12_10 ho hv1 (lg_137 ho)) (zd tX12_count 36 rfl) ?_
    refine z_iconst C (zd tX12_count 37 rfl) ?_
    obtain ⟨q8, h⟩ := zck_some h
    refine za_iald C (lg_139 ho) rfl (by decide) q8 (zd tX12_count 38 rfl) ?_
    obtain ⟨rfl, rfl⟩ := zpi h
    exact ret.1 _ _ _ _ ⟨hv1, (hv1.1 _ _)⟩ rfl rfl rfl (zd tX12_count 39 rfl)
  rw [if_neg c6_6] at h
  by_cases c6_7 : x1 = 7
  · rw [if_pos c6_7] at h
    refine z_tblIn (tgt := 119) C Rx1 c6_7 (zd tX12_count 4 rfl) (by decide) (by decide) rfl (by decide) ?_
    refine z_aload_n C (zd tX12_count 40 rfl) rfl ?_
    refine gl_12_10 (t := 139) C (lg_137 ho) zic_12 (zm zwd_1000) (vl_12_10 ho hv1 (lg_137 ho)) (zd tX12_count 41 rfl) ?_
    refine z_iconst C (zd tX12_count 42 rfl) ?_
    refine z_iload_n C (zd tX12_count 43 rfl) rfl ?_
    refine z_iadd C (zd tX12_count 44 rfl) ?_
    refine z_bipush C (by decide) (zd tX12_count 45 rfl) ?_
    refine z_isub C (zd tX12_count 46 rfl) ?_
    obtain ⟨q9, h⟩ := zck_some h
    refine za_iald C (lg_139 ho) rfl (by decide) q9 (zd tX12_count 47 rfl) ?_
    obtain ⟨rfl, rfl⟩ := zpi h
    exact ret.1 _ _ _ _ ⟨hv1, (hv1.1 _ _)⟩ rfl rfl rfl (zd tX12_count 48 rfl)
  rw [if_neg c6_7] at h
  by_cases c6_8 : x1 = 8
  · rw [if_pos c6_8] at h
    refine z_tblIn (tgt := 119) C Rx1 c6_8 (zd tX12_count 4 rfl) (by decide) (by decide) rfl (by decide) ?_
    refine z_aload_n C (zd tX12_count 40 rfl) rfl ?_
    refine gl_12_10 (t := 139) C (lg_137 ho) zic_12 (zm zwd_1000) (vl_12_10 ho hv1 (lg_137 ho)) (zd tX12_count 41 rfl) ?_
    refine z_iconst C (zd tX12_count 42 rfl) ?_
    refine z_iload_n C (zd tX12_count 43 rfl) rfl ?_
    refine z_iadd C (zd tX12_count 44 rfl) ?_
    refine z_bipush C (by decide) (zd tX12_count 45 rfl) ?_
    refine z_isub C (zd tX12_count 46 rfl) ?_
    obtain ⟨q10, h⟩ := zck_some h
    refine za_iald C (lg_139 ho) rfl (by decide) q10 (zd tX12_count 47 rfl) ?_
    obtain ⟨rfl, rfl⟩ := zpi h
    exact ret.1 _ _ _ _ ⟨hv1, (hv1.1 _ _)⟩ rfl rfl rfl (zd tX12_count 48 rfl)
  rw [if_neg c6_8] at h
  by_cases c6_9 : x1 = 9
  · rw [if_pos c6_9] at h
    refine z_tblIn (tgt := 119) C Rx1 c6_9 (zd tX12_count 4 rfl) (by decide) (by decide) rfl (by decide) ?_
    refine z_aload_n C (zd tX12_count 40 rfl) rfl ?_
    refine gl_12_10 (t := 139) C (lg_137 ho) zic_12 (zm zwd_1000) (vl_12_10 ho hv1 (lg_137 ho)) (zd tX12_count 41 rfl) ?_
    refine z_iconst C (zd tX12_count 42 rfl) ?_
    refine z_iload_n C (zd tX12_count 43 rfl) rfl ?_
    refine z_iadd C (zd tX12_count 44 rfl) ?_
    refine z_bipush C (by decide) (zd tX12_count 45 rfl) ?_
    refine z_isub C (zd tX12_count 46 rfl) ?_
    obtain ⟨q11, h⟩ := zck_some h
    refine za_iald C (lg_139 ho) rfl (by decide) q11 (zd tX12_count 47 rfl) ?_
    obtain ⟨rfl, rfl⟩ := zpi h
    exact ret.1 _ _ _ _ ⟨hv1, (hv1.1 _ _)⟩ rfl rfl rfl (zd tX12_count 48 rfl)
  rw [if_neg c6_9] at h
  by_cases c6_10 : x1 = 10
  · rw [if_pos c6_10] at h
    refine z_tblIn (tgt := 131) C Rx1 c6_10 (zd tX12_count 4 rfl) (by decide) (by decide) rfl (by decide) ?_
    refine z_aload_n C (zd tX12_count 49 rfl) rfl ?_
    refine gf_12_2 C (lg_137 ho) zic_12 (zm zwd_992) (zd tX12_count 50 rfl) ?_
    obtain ⟨rfl, rfl⟩ := zpi h
    exact ret.1 _ _ _ _ ⟨hv1, (hv1.1 _ _)⟩ rfl rfl rfl (zd tX12_count 51 rfl)
  rw [if_neg c6_10] at h
  by_cases c6_11 : x1 = 11
  · rw [if_pos c6_11] at h
    refine z_tblIn (tgt := 136) C Rx1 c6_11 (zd tX12_count 4 rfl) (by decide) (by decide) rfl (by decide) ?_
    refine z_aload_n C (zd tX12_count 52 rfl) rfl ?_
    refine gf_12_16 C (lg_137 ho) zic_12 (zm zwd_1006) (zd tX12_count 53 rfl) ?_
    obtain ⟨rfl, rfl⟩ := zpi h
    exact ret.1 _ _ _ _ ⟨hv1, (hv1.1 _ _)⟩ rfl rfl rfl (zd tX12_count 54 rfl)
  rw [if_neg c6_11] at h
  refine z_tblOut (tgt := 141) C Rx1 (by omega) (zd tX12_count 4 rfl) (by decide) ?_
  refine z_iconst C (zd tX12_count 55 rfl) ?_
  obtain ⟨rfl, rfl⟩ := zpi h
  exact ret.1 _ _ _ _ ⟨hv1, (zR_c (-1) rfl)⟩ rfl rfl rfl (zd tX12_count 56 rfl)
noncomputable def vsX12_isWeek : List Cond := .code yX12_isWeek cX12_isWeek 2 (some .boolean) :: zbig
abbrev rmX12_isWeek : Room := { frames := 1, cells := 0, slots := 0, locals := 22 }
theorem pX12_isWeek : yX12_isWeek.cls = RX12 ∧ yX12_isWeek.cls ≠ "java/lang/invoke/MethodHandle" ∧ yX12_isWeek.cls ≠ "java/lang/invoke/VarHandle" ∧ (parseMethodDescriptor yX12_isWeek.desc).map (fun d => d.parameters.length) = some 1 := by decide +kernel
set_option maxRecDepth 100000 in
set_option maxHeartbeats 4000000 in
theorem qX12_isWeek (l : Launch) (D : va_G) (ids : Nat → ClassId) (b : Nat) {x1 : Int} (Rx1 : zR x1) {v v' : zHp} {r' : Int} (hv : zV 137 24 v) (h : fX12_isWeek v x1 = some (v', r')) : zCT l yX12_isWeek vsX12_isWeek rmX12_isWeek D ids b 137 False 24 [zr 137, zi x1] v 24 (zV 137 24 v' ∧ zR r') (some (zi r')) v' 0 0 := by
  refine zMet (own := RX12) (by decide +kernel) (show vsX12_isWeek = _ from rfl) (Nat.le_of_ble_eq_true rfl) rfl ?_
  intro E hl hRm hD hids hb ho hz hN C hname ret
  subst hl hD hids hb
  unfold fX12_isWeek at h
  refine z_iload_n C (zd tX12_isWeek 0 rfl) rfl ?_
  refine z_iconst C (zd tX12_isWeek 1 rfl) ?_
  refine z_iconst C (zd tX12_isWeek 2 rfl) ?_
  obtain ⟨v1, r2, cv1, h⟩ := zcl_some h
  refine zc_S C ho hz hRm (qX12_within _ _ _ _ Rx1 (zR_c 0 rfl) (zR_c 3 rfl) hv cv1) (zgS zwd_1109 zwd_1110 zwd_13 zwd_1111) rfl pX12_within rfl ⟨rfl, rfl⟩ ⟨Nat.le_of_ble_eq_true rfl, Nat.le_of_ble_eq_true rfl⟩ [] rfl (Nat.le_of_ble_eq_true rfl) (zd tX12_isWeek 3 rfl) [zi r2] rfl (fun p3 => ?_)
  obtain ⟨q4, h⟩ := zck_some h
  obtain ⟨rfl, rfl⟩ := zpi h
  exact ret.1 _ _ _ _ ⟨p3.1, p3.2⟩ rfl rfl (zbool_n q4) (zd tX12_isWeek 4 rfl)
noncomputable def vsX12_laysComing : List Cond := .code yX12_laysComing cX12_laysComing 5 none :: zbig
abbrev rmX12_laysComing : Room := { frames := 2, cells := 0, slots := 0, locals := 45 }
theorem pX12_laysComing : yX12_laysComing.cls = RX12 ∧ yX12_laysComing.cls ≠ "java/lang/invoke/MethodHandle" ∧ yX12_laysComing.cls ≠ "java/lang/invoke/VarHandle" ∧ (parseMethodDescriptor yX12_laysComing.desc).map (fun d => d.parameters.length) = some 0 := by decide +kernel
set_option maxRecDepth 100000 in
set_option maxHeartbeats 4000000 in
theorem bX12_laysComing_L17 {E : zE} (C : zC E 24 cX12_laysComing RX12 vsX12_laysComing) (hN : zEN E = 5) (ho : zEo E = 137) (hz : zEz E = False) (hRm : zER E = rmX12_laysComing) : ∀ (fu : Nat) (v : zHp) (x1 : Int) (x2 : Int) (x3 : Int) (x4 : Int) (res : (zHp × (Int))), fX12_laysComing_L17 fu v x1 x2 x3 x4 = some res → zV 137 24 v → zR x1 → zR x2 → zR x3 → zR x4 → (∀ (w : zHp) (q : Int), res = (w, q) → zV 137 24 w → zR q → zX E 0 0 24 w 71 [some (zr 137), some (zi x1), some (zi x2), some (zi q), none] []) → zX E 0 0 24 v 17 [some (zr 137), some (zi x1), some (zi x2), some (zi x3), some (zi x4)] [] := by
  intro fu
  induction fu with
  | zero =>
    intro v _ _ _ _ res h
    cases h
  | succ fu ih =>
    intro v x1 x2 x3 x4 res h hv Rx1 Rx2 Rx3 Rx4 K1
    rw [fX12_laysComing_L17.eq_2] at h
    refine z_iload C (zd tX12_laysComing 12 rfl) rfl ?_
    refine z_aload_n C (zd tX12_laysComing 13 rfl) rfl ?_
    obtain ⟨v1, r2, cv1, h⟩ := zcl_some h
    refine zc_V C ho hz hRm (qX12_premiums _ _ _ _ hv cv1) (lg_137 ho) (by decide) rfl (zgV zwd_1173 zwd_1175 zws_46 zwd_13 zwd_1176) rfl pX12_premiums rfl ⟨rfl, rfl⟩ ⟨Nat.le_of_ble_eq_true rfl, Nat.le_of_ble_eq_true rfl⟩ [zi x4] rfl (Nat.le_of_ble_eq_true rfl) (zd tX12_laysComing 14 rfl) [zi r2, zi x4] rfl (fun p3 => ?_)
    refine z_icmp_ge (tgt := 71) C Rx4 p3.2 (zd tX12_laysComing 15 rfl) (by decide) h (fun h => ?_) (fun h => ?_)
    · refine z_sub (lo' := [some (zr 137), some (zi x1), some (zi x2), some (zi x3), none]) (zsub_s (zsub_s (zsub_s (zsub_s (zsub_n zsub_0))))) ?_
      exact K1 _ _ (Option.some.inj h).symm p3.1 Rx3
    · refine z_aload_n C (zd tX12_laysComing 16 rfl) rfl ?_
      refine z_iload_n C (zd tX12_laysComing 17 rfl) rfl ?_
      refine z_iload C (zd tX12_laysComing 18 rfl) rfl ?_
      refine z_iload_n C (zd tX12_laysComing 19 rfl) rfl ?_
      obtain ⟨v4, r5, cv4, h⟩ := zcl_some h
      refine zc_V C ho hz hRm (qX12_canBe _ _ _ _ Rx2 Rx4 Rx1 p3.1 cv4) (lg_137 ho) (by decide) rfl (zgV zwd_1315 zwd_1317 zws_73 zwd_13 zwd_1318) rfl pX12_canBe rfl ⟨rfl, rfl⟩ ⟨Nat.le_of_ble_eq_true rfl, Nat.le_of_ble_eq_true rfl⟩ [] rfl (Nat.le_of_ble_eq_true rfl) (zd tX12_laysComing 20 rfl) [zi r5] rfl (fun p6 => ?_)
      refine z_if_eq (tgt := 63) C p6.2 (zd tX12_laysComing 21 rfl) (by decide) h (fun h => ?_) (fun h => ?_)
      · refine z_iload_n C (zd tX12_laysComing 36 rfl) rfl ?_
        refine z_istore_n C (zd tX12_laysComing 37 rfl) (by rw [hN]; decide) ?_
        obtain ⟨t7, et7, Rt7, h⟩ := zn_some h
        refine z_iincE C (zd tX12_laysComing 38 rfl) (by rw [hN]; decide) rfl et7 ?_
        refine z_goto (tgt := 17) C (zd tX12_laysComing 39 rfl) (by decide) ?_
        refine z_sub (lo' := [some (zr 137), some (zi x1), some (zi x2), some (zi x3), some (zi t7)]) (zsub_s (zsub_s (zsub_s (zsub_s (zsub_s zsub_0))))) ?_
        exact ih v4 x1 x2 x3 t7 _ h p6.1 Rx1 Rx2 Rx3 Rt7 K1
      · refine z_iload_n C (zd tX12_laysComing 22 rfl) rfl ?_
        refine z_iconst C (zd tX12_laysComing 23 rfl) ?_
        refine z_icmp_eq (tgt := 58) C Rx3 (zR_c (-1) rfl) (zd tX12_laysComing 24 rfl) (by decide) h (fun h => ?_) (fun h => ?_)
        · refine z_iload C (zd tX12_laysComing 34 rfl) rfl ?_
          refine z_goto (tgt := 64) C (zd tX12_laysComing 35 rfl) (by decide) ?_
          refine z_istore_n C (zd tX12_laysComing 37 rfl) (by rw [hN]; decide) ?_
          obtain ⟨t8, et8, Rt8, h⟩ := zn_some h
          refine z_iincE C (zd tX12_laysComing 38 rfl) (by rw [hN]; decide) rfl et8 ?_
          refine z_goto (tgt := 17) C (zd tX12_laysComing 39 rfl) (by decide) ?_
          refine z_sub (lo' := [some (zr 137), some (zi x1), some (zi x2), some (zi x4), some (zi t8)]) (zsub_s (zsub_s (zsub_s (zsub_s (zsub_s zsub_0))))) ?_
          exact ih v4 x1 x2 x4 t8 _ h p6.1 Rx1 Rx2 Rx4 Rt8 K1
        · refine z_aload_n C (zd tX12_laysComing 25 rfl) rfl ?_
          refine z_iload C (zd tX12_laysComing 26 rfl) rfl ?_
          refine z_iconst C (zd tX12_laysComing 27 rfl) ?_
          obtain ⟨v9, r10, cv9, h⟩ := zcl_some h
          refine zc_V C ho hz hRm (qX12_premiumIs _ _ _ _ Rx4 (zR_c 1 rfl) p6.1 cv9) (lg_137 ho) (by decide) rfl (zgV zwd_1177 zwd_1179 zws_47 zwd_13 zwd_1180) rfl pX12_premiumIs rfl ⟨rfl, rfl⟩ ⟨Nat.le_of_ble_eq_true rfl, Nat.le_of_ble_eq_true rfl⟩ [] rfl (Nat.le_of_ble_eq_true rfl) (zd tX12_laysComing 28 rfl) [zi r10] rfl (fun p11 => ?_)
          refine z_aload_n C (zd tX12_laysComing 29 rfl) rfl ?_
          refine z_iload_n C (zd tX12_laysComing 30 rfl) rfl ?_
          refine z_iconst C (zd tX12_laysComing 31 rfl) ?_
          obtain ⟨v12, r13, cv12, h⟩ := zcl_some h
          refine zc_V C ho hz hRm (qX12_premiumIs _ _ _ _ Rx3 (zR_c 1 rfl) p11.1 cv12) (lg_137 ho) (by decide) rfl (zgV zwd_1177 zwd_1179 zws_47 zwd_13 zwd_1180) rfl pX12_premiumIs rfl ⟨rfl, rfl⟩ ⟨Nat.le_of_ble_eq_true rfl, Nat.le_of_ble_eq_true rfl⟩ [zi r10] rfl (Nat.le_of_ble_eq_true rfl) (zd tX12_laysComing 32 rfl) [zi r13, zi r10] rfl (fun p14 => ?_)
          refine z_icmp_le (tgt := 63) C p11.2 p14.2 (zd tX12_laysComing 33 rfl) (by decide) h (fun h => ?_) (fun h => ?_)
          · refine z_iload_n C (zd tX12_laysComing 36 rfl) rfl ?_
            refine z_istore_n C (zd tX12_laysComing 37 rfl) (by rw [hN]; decide) ?_
            obtain ⟨t15, et15, Rt15, h⟩ := zn_some h
            refine z_iincE C (zd tX12_laysComing 38 rfl) (by rw [hN]; decide) rfl et15 ?_
            refine z_goto (tgt := 17) C (zd tX12_laysComing 39 rfl) (by decide) ?_
            refine z_sub (lo' := [some (zr 137), some (zi x1), some (zi x2), some (zi x3), some (zi t15)]) (zsub_s (zsub_s (zsub_s (zsub_s (zsub_s zsub_0))))) ?_
            exact ih v12 x1 x2 x3 t15 _ h p14.1 Rx1 Rx2 Rx3 Rt15 K1
          · refine z_iload C (zd tX12_laysComing 34 rfl) rfl ?_
            refine z_goto (tgt := 64) C (zd tX12_laysComing 35 rfl) (by decide) ?_
            refine z_istore_n C (zd tX12_laysComing 37 rfl) (by rw [hN]; decide) ?_
            obtain ⟨t16, et16, Rt16, h⟩ := zn_some h
            refine z_iincE C (zd tX12_laysComing 38 rfl) (by rw [hN]; decide) rfl et16 ?_
            refine z_goto (tgt := 17) C (zd tX12_laysComing 39 rfl) (by decide) ?_
            refine z_sub (lo' := [some (zr 137), some (zi x1), some (zi x2), some (zi x4), some (zi t16)]) (zsub_s (zsub_s (zsub_s (zsub_s (zsub_s zsub_0))))) ?_
            exact ih v12 x1 x2 x4 t16 _ h p14.1 Rx1 Rx2 Rx4 Rt16 K1
set_option maxRecDepth 100000 in
set_option maxHeartbeats 4000000 in
theorem bX12_laysComing_L4 {E : zE} (C : zC E 24 cX12_laysComing RX12 vsX12_laysComing) (hN : zEN E = 5) (ho : zEo E = 137) (hz : zEz E = False) (hRm : zER E = rmX12_laysComing) : ∀ (fu : Nat) (v : zHp) (x1 : Int) (x2 : Int) (res : (zHp × (Int))), fX12_laysComing_L4 fu v x1 x2 = some res → zV 137 24 v → zR x1 → zR x2 → (∀ (w : zHp) (q : Int), res = (w, q) → zV 137 24 w → zR q → zX E 0 0 24 w 102 [some (zr 137), some (zi q), none, none, none] []) → zX E 0 0 24 v 4 [some (zr 137), some (zi x1), some (zi x2), none, none] [] := by
  intro fu
  induction fu with
  | zero =>
    intro v _ _ res h
    cases h
  | succ fu ih =>
    intro v x1 x2 res h hv Rx1 Rx2 K1
    rw [fX12_laysComing_L4.eq_2] at h
    refine z_iload_n C (zd tX12_laysComing 4 rfl) rfl ?_
    refine z_aload_n C (zd tX12_laysComing 5 rfl) rfl ?_
    refine gf_12_23 C (lg_137 ho) zic_12 (zm zwd_1013) (zd tX12_laysComing 6 rfl) ?_
    refine z_icmp_ge (tgt := 102) C Rx2 (hv.1 _ _) (zd tX12_laysComing 7 rfl) (by decide) h (fun h => ?_) (fun h => ?_)
    · refine z_sub (lo' := [some (zr 137), some (zi x1), none, none, none]) (zsub_s (zsub_s (zsub_n (zsub_n (zsub_n zsub_0))))) ?_
      exact K1 _ _ (Option.some.inj h).symm hv Rx1
    · refine z_iconst C (zd tX12_laysComing 8 rfl) ?_
      refine z_istore_n C (zd tX12_laysComing 9 rfl) (by rw [hN]; decide) ?_
      refine z_iconst C (zd tX12_laysComing 10 rfl) ?_
      refine z_istore C (zd tX12_laysComing 11 rfl) (by rw [hN]; decide) ?_
      refine z_sub (lo' := [some (zr 137), some (zi x1), some (zi x2), some (zi (-1)), some (zi 0)]) (zsub_s (zsub_s (zsub_s (zsub_s (zsub_s zsub_0))))) ?_
      obtain ⟨v17, w18, lv17, h⟩ := zl_some h
      refine bX12_laysComing_L17 C hN ho hz hRm zFU v x1 x2 (-1) 0 _ lv17 hv Rx1 Rx2 (zR_c (-1) rfl) (zR_c 0 rfl) (fun w1 q1 e1 hv17 Rw18 => ?_)
      obtain ⟨rfl, rfl⟩ := zpp e1
      refine z_aload_n C (zd tX12_laysComing 40 rfl) rfl ?_
      refine gl_12_27 (t := 152) C (lg_137 ho) zic_12 (zm zwd_1017) (vl_12_27 ho hv17 (lg_137 ho)) (zd tX12_laysComing 41 rfl) ?_
      refine z_iload_n C (zd tX12_laysComing 42 rfl) rfl ?_
      refine z_iload_n C (zd tX12_laysComing 43 rfl) rfl ?_
      obtain ⟨q19, h⟩ := zck_some h
      obtain ⟨v20, ev20, h⟩ := zb_some h
      have hv20 : zV 137 24 v20 := by rw [ev20]; exact hv17.st Rw18 (lg_152 ho).1 (Or.inr rfl)
      refine za_iast C (lg_152 ho) rfl (by decide) q19 ev20 (zd tX12_laysComing 44 rfl) ?_
      refine z_iload_n C (zd tX12_laysComing 45 rfl) rfl ?_
      refine z_iload_n C (zd tX12_laysComing 46 rfl) rfl ?_
      refine z_iconst C (zd tX12_laysComing 47 rfl) ?_
      refine z_icmp_ne (tgt := 88) C Rw18 (zR_c (-1) rfl) (zd tX12_laysComing 48 rfl) (by decide) h (fun h => ?_) (fun h => ?_)
      · refine z_aload_n C (zd tX12_laysComing 51 rfl) rfl ?_
        refine z_iload_n C (zd tX12_laysComing 52 rfl) rfl ?_
        refine z_iconst C (zd tX12_laysComing 53 rfl) ?_
        obtain ⟨v21, r22, cv21, h⟩ := zcl_some h
        refine zc_V C ho hz hRm (qX12_premiumIs _ _ _ _ Rw18 (zR_c 2 rfl) hv20 cv21) (lg_137 ho) (by decide) rfl (zgV zwd_1177 zwd_1179 zws_47 zwd_13 zwd_1180) rfl pX12_premiumIs rfl ⟨rfl, rfl⟩ ⟨Nat.le_of_ble_eq_true rfl, Nat.le_of_ble_eq_true rfl⟩ [zi x1] rfl (Nat.le_of_ble_eq_true rfl) (zd tX12_laysComing 54 rfl) [zi r22, zi x1] rfl (fun p23 => ?_)
        refine z_iadd C (zd tX12_laysComing 55 rfl) ?_
        obtain ⟨t24, et24, Rt24, h⟩ := zn_some h
        refine z_n0 (congrArg zI et24.symm) ?_
        refine z_istore_n C (zd tX12_laysComing 56 rfl) (by rw [hN]; decide) ?_
        obtain ⟨t25, et25, Rt25, h⟩ := zn_some h
        refine z_iincE C (zd tX12_laysComing 57 rfl) (by rw [hN]; decide) rfl et25 ?_
        refine z_goto (tgt := 4) C (zd tX12_laysComing 58 rfl) (by decide) ?_
        refine z_sub (lo' := [some (zr 137), some (zi t24), some (zi t25), none, none]) (zsub_s (zsub_s (zsub_s (zsub_n (zsub_n zsub_0))))) ?_
        exact ih v21 t24 t25 _ h p23.1 Rt24 Rt25 K1
      · refine z_iconst C (zd tX12_laysComing 49 rfl) ?_
        refine z_goto (tgt := 94) C (zd tX12_laysComing 50 rfl) (by decide) ?_
        refine z_iadd C (zd tX12_laysComing 55 rfl) ?_
        obtain ⟨t26, et26, Rt26, h⟩ := zn_some h
        refine z_n0 (congrArg zI et26.symm) ?_
        refine z_istore_n C (zd tX12_laysComing 56 rfl) (by rw [hN]; decide) ?_
        obtain ⟨t27, et27, Rt27, h⟩ := zn_some h
        refine z_iincE C (zd tX12_laysComing 57 rfl) (by rw [hN]; decide) rfl et27 ?_
        refine z_goto (tgt := 4) C (zd tX12_laysComing 58 rfl) (by decide) ?_
        refine z_sub (lo' := [some (zr 137), some (zi t26), some (zi t27), none, none]) (zsub_s (zsub_s (zsub_s (zsub_n (zsub_n zsub_0))))) ?_
        exact ih v20 t26 t27 _ h hv20 Rt26 Rt27 K1
set_option maxRecDepth 100000 in
set_option maxHeartbeats 4000000 in
theorem qX12_laysComing (l : Launch) (D : va_G) (ids : Nat → ClassId) (b : Nat)  {v v' : zHp} {r' : Int} (hv : zV 137 24 v) (h : fX12_laysComing v = some (v', r')) : zCT l yX12_laysComing vsX12_laysComing rmX12_laysComing D ids b 137 False 24 [zr 137] v 24 (zV 137 24 v') none v' 0 0 := by
  refine zMet (own := RX12) (by decide +kernel) (show vsX12_laysComing = _ from rfl) (Nat.le_of_ble_eq_true rfl) rfl ?_
  intro E hl hRm hD hids hb ho hz hN C hname ret
  subst hl hD hids hb
  unfold fX12_laysComing at h
  refine z_iconst C (zd tX12_laysComing 0 rfl) ?_
  refine z_istore_n C (zd tX12_laysComing 1 rfl) (by rw [hN]; decide) ?_
  refine z_iconst C (zd tX12_laysComing 2 rfl) ?_
  refine z_istore_n C (zd tX12_laysComing 3 rfl) (by rw [hN]; decide) ?_
  refine z_sub (lo' := [some (zr 137), some (zi 0), some (zi 0), none, none]) (zsub_s (zsub_s (zsub_s (zsub_n (zsub_n zsub_0))))) ?_
  obtain ⟨v28, w29, lv28, h⟩ := zl_some h
  refine bX12_laysComing_L4 C hN ho hz hRm zFU v 0 0 _ lv28 hv (zR_c 0 rfl) (zR_c 0 rfl) (fun w1 q1 e1 hv28 Rw29 => ?_)
  obtain ⟨rfl, rfl⟩ := zpp e1
  refine z_aload_n C (zd tX12_laysComing 59 rfl) rfl ?_
  refine z_iload_n C (zd tX12_laysComing 60 rfl) rfl ?_
  obtain ⟨v30, ev30, h⟩ := zb_some h
  have hv30 : zV 137 24 v30 := by rw [ev30]; exact hv28.st Rw29 (lg_137 ho).1 (Or.inr rfl)
  refine pf_12_33 C (lg_137 ho) zic_12 (zm zwd_1023) ev30 (zd tX12_laysComing 61 rfl) ?_
  obtain ⟨rfl, rfl⟩ := zpi h
  exact ret.2.1 _ _ hv30 rfl rfl (zd tX12_laysComing 62 rfl)
noncomputable def vsX12_readsBest : List Cond := .code yX12_readsBest cX12_readsBest 6 none :: zbig
abbrev rmX12_readsBest : Room := { frames := 2, cells := 0, slots := 0, locals := 45 }
theorem pX12_readsBest : yX12_readsBest.cls = RX12 ∧ yX12_readsBest.cls ≠ "java/lang/invoke/MethodHandle" ∧ yX12_readsBest.cls ≠ "java/lang/invoke/VarHandle" ∧ (parseMethodDescriptor yX12_readsBest.desc).map (fun d => d.parameters.length) = some 0 := by decide +kernel
set_option maxRecDepth 100000 in
set_option maxHeartbeats 4000000 in
theorem bX12_readsBest_L68 {E : zE} (C : zC E 24 cX12_readsBest RX12 vsX12_readsBest) (hN : zEN E = 6) (ho : zEo E = 137) (hz : zEz E = False) (hRm : zER E = rmX12_readsBest) : ∀ (fu : Nat) (v : zHp) (x1 : Int) (x2 : Int) (x3 : Int) (x4 : Int) (x5 : Int) (res : (zHp × (Int))), fX12_readsBest_L68 fu v x1 x2 x3 x4 x5 = some res → zV 137 24 v → zR x1 → zR x2 → zR x3 → zR x4 → zR x5 → (∀ (w : zHp) (q : Int), res = (w, q) → zV 137 24 w → zR q → zX E 0 0 24 w 149 [some (zr 137), some (zi x1), some (zi x2), none, some (zi q), none] []) → zX E 0 0 24 v 68 [some (zr 137), some (zi x1), some (zi x2), some (zi x3), some (zi x4), some (zi x5)] [] := by
  intro fu
  induction fu with
  | zero =>
    intro v _ _ _ _ _ res h
    cases h
  | succ fu ih =>
    intro v x1 x2 x3 x4 x5 res h hv Rx1 Rx2 Rx3 Rx4 Rx5 K1
    rw [fX12_readsBest_L68.eq_2] at h
    refine z_iload C (zd tX12_readsBest 45 rfl) rfl ?_
    refine z_aload_n C (zd tX12_readsBest 46 rfl) rfl ?_
    obtain ⟨v9, r10, cv9, h⟩ := zcl_some h
    refine zc_V C ho hz hRm (qX12_premiums _ _ _ _ hv cv9) (lg_137 ho) (by decide) rfl (zgV zwd_1173 zwd_1175 zws_46 zwd_13 zwd_1176) rfl pX12_premiums rfl ⟨rfl, rfl⟩ ⟨Nat.le_of_ble_eq_true rfl, Nat.le_of_ble_eq_true rfl⟩ [zi x5] rfl (Nat.le_of_ble_eq_true rfl) (zd tX12_readsBest 47 rfl) [zi r10, zi x5] rfl (fun p11 => ?_)
    refine z_icmp_ge (tgt := 149) C Rx5 p11.2 (zd tX12_readsBest 48 rfl) (by decide) h (fun h => ?_) (fun h => ?_)
    · refine z_sub (lo' := [some (zr 137), some (zi x1), some (zi x2), none, some (zi x4), none]) (zsub_s (zsub_s (zsub_s (zsub_n (zsub_s (zsub_n zsub_0)))))) ?_
      exact K1 _ _ (Option.some.inj h).symm p11.1 Rx4
    · refine z_iload C (zd tX12_readsBest 49 rfl) rfl ?_
      refine z_aload_n C (zd tX12_readsBest 50 rfl) rfl ?_
      obtain ⟨v12, r13, cv12, h⟩ := zcl_some h
      refine zc_V C ho hz hRm (qX12_premiums _ _ _ _ p11.1 cv12) (lg_137 ho) (by decide) rfl (zgV zwd_1173 zwd_1175 zws_46 zwd_13 zwd_1176) rfl pX12_premiums rfl ⟨rfl, rfl⟩ ⟨Nat.le_of_ble_eq_true rfl, Nat.le_of_ble_eq_true rfl⟩ [zi x4] rfl (Nat.le_of_ble_eq_true rfl) (zd tX12_readsBest 51 rfl) [zi r13, zi x4] rfl (fun p14 => ?_)
      refine z_icmp_ne (tgt := 149) C Rx4 p14.2 (zd tX12_readsBest 52 rfl) (by decide) h (fun h => ?_) (fun h => ?_)
      · refine z_sub (lo' := [some (zr 137), some (zi x1), some (zi x2), none, some (zi x4), none]) (zsub_s (zsub_s (zsub_s (zsub_n (zsub_s (zsub_n zsub_0)))))) ?_
        exact K1 _ _ (Option.some.inj h).symm p14.1 Rx4
      · refine z_aload_n C (zd tX12_readsBest 53 rfl) rfl ?_
        refine z_iload_n C (zd tX12_readsBest 54 rfl) rfl ?_
        refine z_iload C (zd tX12_readsBest 55 rfl) rfl ?_
        refine z_iload_n C (zd tX12_readsBest 56 rfl) rfl ?_
        obtain ⟨v15, r16, cv15, h⟩ := zcl_some h
        refine zc_V C ho hz hRm (qX12_canBe _ _ _ _ Rx2 Rx5 Rx1 p14.1 cv15) (lg_137 ho) (by decide) rfl (zgV zwd_1315 zwd_1317 zws_73 zwd_13 zwd_1318) rfl pX12_canBe rfl ⟨rfl, rfl⟩ ⟨Nat.le_of_ble_eq_true rfl, Nat.le_of_ble_eq_true rfl⟩ [] rfl (Nat.le_of_ble_eq_true rfl) (zd tX12_readsBest 57 rfl) [zi r16] rfl (fun p17 => ?_)
        refine z_if_eq (tgt := 139) C p17.2 (zd tX12_readsBest 58 rfl) (by decide) h (fun h => ?_) (fun h => ?_)
        · refine z_iload C (zd tX12_readsBest 85 rfl) rfl ?_
          refine z_istore C (zd tX12_readsBest 86 rfl) (by rw [hN]; decide) ?_
          obtain ⟨t18, et18, Rt18, h⟩ := zn_some h
          refine z_iincE C (zd tX12_readsBest 87 rfl) (by rw [hN]; decide) rfl et18 ?_
          refine z_goto (tgt := 68) C (zd tX12_readsBest 88 rfl) (by decide) ?_
          refine z_sub (lo' := [some (zr 137), some (zi x1), some (zi x2), some (zi x3), some (zi x4), some (zi t18)]) (zsub_s (zsub_s (zsub_s (zsub_s (zsub_s (zsub_s zsub_0)))))) ?_
          exact ih v15 x1 x2 x3 x4 t18 _ h p17.1 Rx1 Rx2 Rx3 Rx4 Rt18 K1
        · refine z_bipush C (by decide) (zd tX12_readsBest 59 rfl) ?_
          refine z_aload_n C (zd tX12_readsBest 60 rfl) rfl ?_
          refine z_iload C (zd tX12_readsBest 61 rfl) rfl ?_
          refine z_iconst C (zd tX12_readsBest 62 rfl) ?_
          obtain ⟨v19, r20, cv19, h⟩ := zcl_some h
          refine zc_V C ho hz hRm (qX12_premiumIs _ _ _ _ Rx5 (zR_c 1 rfl) p17.1 cv19) (lg_137 ho) (by decide) rfl (zgV zwd_1177 zwd_1179 zws_47 zwd_13 zwd_1180) rfl pX12_premiumIs rfl ⟨rfl, rfl⟩ ⟨Nat.le_of_ble_eq_true rfl, Nat.le_of_ble_eq_true rfl⟩ [zi 100] rfl (Nat.le_of_ble_eq_true rfl) (zd tX12_readsBest 63 rfl) [zi r20, zi 100] rfl (fun p21 => ?_)
          refine z_iadd C (zd tX12_readsBest 64 rfl) ?_
          refine z_aload_n C (zd tX12_readsBest 65 rfl) rfl ?_
          refine gl_12_29 (t := 154) C (lg_137 ho) zic_12 (zm zwd_1019) (vl_12_29 ho p21.1 (lg_137 ho)) (zd tX12_readsBest 66 rfl) ?_
          refine z_sipush C (by decide) (zd tX12_readsBest 67 rfl) ?_
          refine z_iload_n C (zd tX12_readsBest 68 rfl) rfl ?_
          refine z_iconst C (zd tX12_readsBest 69 rfl) ?_
          refine z_iadd C (zd tX12_readsBest 70 rfl) ?_
          refine z_imul C (zd tX12_readsBest 71 rfl) ?_
          refine z_iload_n C (zd tX12_readsBest 72 rfl) rfl ?_
          refine z_iadd C (zd tX12_readsBest 73 rfl) ?_
          refine z_aload_n C (zd tX12_readsBest 74 rfl) rfl ?_
          refine z_iload C (zd tX12_readsBest 75 rfl) rfl ?_
          refine z_iconst C (zd tX12_readsBest 76 rfl) ?_
          obtain ⟨v22, r23, cv22, h⟩ := zcl_some h
          refine zc_V C ho hz hRm (qX12_premiumIs _ _ _ _ Rx5 (zR_c 2 rfl) p21.1 cv22) (lg_137 ho) (by decide) rfl (zgV zwd_1177 zwd_1179 zws_47 zwd_13 zwd_1180) rfl pX12_premiumIs rfl ⟨rfl, rfl⟩ ⟨Nat.le_of_ble_eq_true rfl, Nat.le_of_ble_eq_true rfl⟩ [zi ((680 * (x2 + 1)) + x1), zr 154, zi (100 + r20)] rfl (Nat.le_of_ble_eq_true rfl) (zd tX12_readsBest 77 rfl) [zi r23, zi ((680 * (x2 + 1)) + x1), zr 154, zi (100 + r20)] rfl (fun p24 => ?_)
          refine z_iadd C (zd tX12_readsBest 78 rfl) ?_
          obtain ⟨q25, h⟩ := zck_some h
          refine za_iald C (lg_154 ho) rfl (by decide) q25 (zd tX12_readsBest 79 rfl) ?_
          refine z_iadd C (zd tX12_readsBest 80 rfl) ?_
          refine z_iload_n C (zd tX12_readsBest 81 rfl) rfl ?_
          obtain ⟨t26, et26, Rt26, h⟩ := zn_some h
          refine z_n1 (congrArg zI et26.symm) ?_
          refine z_icmp_ne (tgt := 139) C Rt26 Rx3 (zd tX12_readsBest 82 rfl) (by decide) h (fun h => ?_) (fun h => ?_)
          · refine z_iload C (zd tX12_readsBest 85 rfl) rfl ?_
            refine z_istore C (zd tX12_readsBest 86 rfl) (by rw [hN]; decide) ?_
            obtain ⟨t27, et27, Rt27, h⟩ := zn_some h
            refine z_iincE C (zd tX12_readsBest 87 rfl) (by rw [hN]; decide) rfl et27 ?_
            refine z_goto (tgt := 68) C (zd tX12_readsBest 88 rfl) (by decide) ?_
            refine z_sub (lo' := [some (zr 137), some (zi x1), some (zi x2), some (zi x3), some (zi x4), some (zi t27)]) (zsub_s (zsub_s (zsub_s (zsub_s (zsub_s (zsub_s zsub_0)))))) ?_
            exact ih v22 x1 x2 x3 x4 t27 _ h p24.1 Rx1 Rx2 Rx3 Rx4 Rt27 K1
          · refine z_iload C (zd tX12_readsBest 83 rfl) rfl ?_
            refine z_goto (tgt := 141) C (zd tX12_readsBest 84 rfl) (by decide) ?_
            refine z_istore C (zd tX12_readsBest 86 rfl) (by rw [hN]; decide) ?_
            obtain ⟨t28, et28, Rt28, h⟩ := zn_some h
            refine z_iincE C (zd tX12_readsBest 87 rfl) (by rw [hN]; decide) rfl et28 ?_
            refine z_goto (tgt := 68) C (zd tX12_readsBest 88 rfl) (by decide) ?_
            refine z_sub (lo' := [some (zr 137), some (zi x1), some (zi x2), some (zi x3), some (zi x5), some (zi t28)]) (zsub_s (zsub_s (zsub_s (zsub_s (zsub_s (zsub_s zsub_0)))))) ?_
            exact ih v22 x1 x2 x3 x5 t28 _ h p24.1 Rx1 Rx2 Rx3 Rx5 Rt28 K1
set_option maxRecDepth 100000 in
set_option maxHeartbeats 4000000 in
theorem jX12_readsBest_J63 {E : zE} (C : zC E 24 cX12_readsBest RX12 vsX12_readsBest) (hN : zEN E = 6) (ho : zEo E = 137) (hz : zEz E = False) (hRm : zER E = rmX12_readsBest) (rc : zHp → Int → Int → Option (zHp × (Int))) (res : (zHp × (Int))) (v : zHp) (x1 : Int) (x2 : Int) (x3 : Int) (s0 : Int) (K1 : ∀ (w : zHp) (q : Int), res = (w, q) → zV 137 24 w → zR q → zX E 0 0 24 w 183 [some (zr 137), some (zi q), none, none, none, none] []) (hrc0 : True) (h : fX12_readsBest_J63 rc v x1 x2 x3 s0 = some res) (hv : zV 137 24 v) (Rx1 : zR x1) (Rx2 : zR x2) (Rx3 : zR x3) (Rs0 : zR s0) (hrc : ∀ (v : zHp) (z1 : Int) (z2 : Int), rc v z1 z2 = some res → zV 137 24 v → zR z1 → zR z2 → zX E 0 0 24 v 4 [some (zr 137), some (zi z1), some (zi z2), none, none, none] []): zX E 0 0 24 v 63 [some (zr 137), some (zi x1), some (zi x2), some (zi x3), none, none] [zi s0] := by
  unfold fX12_readsBest_J63 at h
  refine z_istore C (zd tX12_readsBest 42 rfl) (by rw [hN]; decide) ?_
  refine z_iconst C (zd tX12_readsBest 43 rfl) ?_
  refine z_istore C (zd tX12_readsBest 44 rfl) (by rw [hN]; decide) ?_
  refine z_sub (lo' := [some (zr 137), some (zi x1), some (zi x2), some (zi x3), some (zi s0), some (zi 0)]) (zsub_s (zsub_s (zsub_s (zsub_s (zsub_s (zsub_s zsub_0)))))) ?_
  obtain ⟨v29, w30, lv29, h⟩ := zl_some h
  refine bX12_readsBest_L68 C hN ho hz hRm zFU v x1 x2 x3 s0 0 _ lv29 hv Rx1 Rx2 Rx3 Rs0 (zR_c 0 rfl) (fun w1 q1 e1 hv29 Rw30 => ?_)
  obtain ⟨rfl, rfl⟩ := zpp e1
  refine z_aload_n C (zd tX12_readsBest 89 rfl) rfl ?_
  refine gl_12_26 (t := 151) C (lg_137 ho) zic_12 (zm zwd_1016) (vl_12_26 ho hv29 (lg_137 ho)) (zd tX12_readsBest 90 rfl) ?_
  refine z_iload_n C (zd tX12_readsBest 91 rfl) rfl ?_
  refine z_iload C (zd tX12_readsBest 92 rfl) rfl ?_
  obtain ⟨q31, h⟩ := zck_some h
  obtain ⟨v32, ev32, h⟩ := zb_some h
  have hv32 : zV 137 24 v32 := by rw [ev32]; exact hv29.st Rw30 (lg_151 ho).1 (Or.inr rfl)
  refine za_iast C (lg_151 ho) rfl (by decide) q31 ev32 (zd tX12_readsBest 93 rfl) ?_
  refine z_iload_n C (zd tX12_readsBest 94 rfl) rfl ?_
  refine z_iload C (zd tX12_readsBest 95 rfl) rfl ?_
  refine z_iconst C (zd tX12_readsBest 96 rfl) ?_
  refine z_icmp_ne (tgt := 168) C Rw30 (zR_c (-1) rfl) (zd tX12_readsBest 97 rfl) (by decide) h (fun h => ?_) (fun h => ?_)
  · refine z_aload_n C (zd tX12_readsBest 100 rfl) rfl ?_
    refine z_iload C (zd tX12_readsBest 101 rfl) rfl ?_
    refine z_iconst C (zd tX12_readsBest 102 rfl) ?_
    obtain ⟨v33, r34, cv33, h⟩ := zcl_some h
    refine zc_V C ho hz hRm (qX12_premiumIs _ _ _ _ Rw30 (zR_c 2 rfl) hv32 cv33) (lg_137 ho) (by decide) rfl (zgV zwd_1177 zwd_1179 zws_47 zwd_13 zwd_1180) rfl pX12_premiumIs rfl ⟨rfl, rfl⟩ ⟨Nat.le_of_ble_eq_true rfl, Nat.le_of_ble_eq_true rfl⟩ [zi x1] rfl (Nat.le_of_ble_eq_true rfl) (zd tX12_readsBest 103 rfl) [zi r34, zi x1] rfl (fun p35 => ?_)
    refine z_iadd C (zd tX12_readsBest 104 rfl) ?_
    obtain ⟨t36, et36, Rt36, h⟩ := zn_some h
    refine z_n0 (congrArg zI et36.symm) ?_
    refine z_istore_n C (zd tX12_readsBest 105 rfl) (by rw [hN]; decide) ?_
    obtain ⟨t37, et37, Rt37, h⟩ := zn_some h
    refine z_iincE C (zd tX12_readsBest 106 rfl) (by rw [hN]; decide) rfl et37 ?_
    refine z_goto (tgt := 4) C (zd tX12_readsBest 107 rfl) (by decide) ?_
    refine z_sub (lo' := [some (zr 137), some (zi t36), some (zi t37), none, none, none]) (zsub_s (zsub_s (zsub_s (zsub_n (zsub_n (zsub_n zsub_0)))))) ?_
    exact hrc v33 t36 t37 h p35.1 Rt36 Rt37
  · refine z_iconst C (zd tX12_readsBest 98 rfl) ?_
    refine z_goto (tgt := 175) C (zd tX12_readsBest 99 rfl) (by decide) ?_
    refine z_iadd C (zd tX12_readsBest 104 rfl) ?_
    obtain ⟨t38, et38, Rt38, h⟩ := zn_some h
    refine z_n0 (congrArg zI et38.symm) ?_
    refine z_istore_n C (zd tX12_readsBest 105 rfl) (by rw [hN]; decide) ?_
    obtain ⟨t39, et39, Rt39, h⟩ := zn_some h
    refine z_iincE C (zd tX12_readsBest 106 rfl) (by rw [hN]; decide) rfl et39 ?_
    refine z_goto (tgt := 4) C (zd tX12_readsBest 107 rfl) (by decide) ?_
    refine z_sub (lo' := [some (zr 137), some (zi t38), some (zi t39), none, none, none]) (zsub_s (zsub_s (zsub_s (zsub_n (zsub_n (zsub_n zsub_0)))))) ?_
    exact hrc v32 t38 t39 h hv32 Rt38 Rt39
set_option maxRecDepth 100000 in
set_option maxHeartbeats 4000000 in
theorem bX12_readsBest_L4 {E : zE} (C : zC E 24 cX12_readsBest RX12 vsX12_readsBest) (hN : zEN E = 6) (ho : zEo E = 137) (hz : zEz E = False) (hRm : zER E = rmX12_readsBest) : ∀ (fu : Nat) (v : zHp) (x1 : Int) (x2 : Int) (res : (zHp × (Int))), fX12_readsBest_L4 fu v x1 x2 = some res → zV 137 24 v → zR x1 → zR x2 → (∀ (w : zHp) (q : Int), res = (w, q) → zV 137 24 w → zR q → zX E 0 0 24 w 183 [some (zr 137), some (zi q), none, none, none, none] []) → zX E 0 0 24 v 4 [some (zr 137), some (zi x1), some (zi x2), none, none, none] [] := by
  intro fu
  induction fu with
  | zero =>
    intro v _ _ res h
    cases h
  | succ fu ih =>
    intro v x1 x2 res h hv Rx1 Rx2 K1
    rw [fX12_readsBest_L4.eq_2] at h
    refine z_iload_n C (zd tX12_readsBest 4 rfl) rfl ?_
    refine z_aload_n C (zd tX12_readsBest 5 rfl) rfl ?_
    refine gf_12_23 C (lg_137 ho) zic_12 (zm zwd_1013) (zd tX12_readsBest 6 rfl) ?_
    refine z_icmp_ge (tgt := 183) C Rx2 (hv.1 _ _) (zd tX12_readsBest 7 rfl) (by decide) h (fun h => ?_) (fun h => ?_)
    · refine z_sub (lo' := [some (zr 137), some (zi x1), none, none, none, none]) (zsub_s (zsub_s (zsub_n (zsub_n (zsub_n (zsub_n zsub_0)))))) ?_
      exact K1 _ _ (Option.some.inj h).symm hv Rx1
    · refine z_aload_n C (zd tX12_readsBest 8 rfl) rfl ?_
      refine gl_12_28 (t := 153) C (lg_137 ho) zic_12 (zm zwd_1018) (vl_12_28 ho hv (lg_137 ho)) (zd tX12_readsBest 9 rfl) ?_
      refine z_iload_n C (zd tX12_readsBest 10 rfl) rfl ?_
      refine z_iload_n C (zd tX12_readsBest 11 rfl) rfl ?_
      obtain ⟨q1, h⟩ := zck_some h
      obtain ⟨v2, ev2, h⟩ := zb_some h
      have hv2 : zV 137 24 v2 := by rw [ev2]; exact hv.st Rx1 (lg_153 ho).1 (Or.inr rfl)
      refine za_iast C (lg_153 ho) rfl (by decide) q1 ev2 (zd tX12_readsBest 12 rfl) ?_
      refine z_aload_n C (zd tX12_readsBest 13 rfl) rfl ?_
      refine gl_12_29 (t := 154) C (lg_137 ho) zic_12 (zm zwd_1019) (vl_12_29 ho hv2 (lg_137 ho)) (zd tX12_readsBest 14 rfl) ?_
      refine z_sipush C (by decide) (zd tX12_readsBest 15 rfl) ?_
      refine z_iload_n C (zd tX12_readsBest 16 rfl) rfl ?_
      refine z_imul C (zd tX12_readsBest 17 rfl) ?_
      refine z_iload_n C (zd tX12_readsBest 18 rfl) rfl ?_
      refine z_iadd C (zd tX12_readsBest 19 rfl) ?_
      obtain ⟨q3, h⟩ := zck_some h
      refine za_iald C (lg_154 ho) rfl (by decide) q3 (zd tX12_readsBest 20 rfl) ?_
      refine z_istore_n C (zd tX12_readsBest 21 rfl) (by rw [hN]; decide) ?_
      refine z_bipush C (by decide) (zd tX12_readsBest 22 rfl) ?_
      refine z_aload_n C (zd tX12_readsBest 23 rfl) rfl ?_
      refine gl_12_29 (t := 154) C (lg_137 ho) zic_12 (zm zwd_1019) (vl_12_29 ho hv2 (lg_137 ho)) (zd tX12_readsBest 24 rfl) ?_
      refine z_sipush C (by decide) (zd tX12_readsBest 25 rfl) ?_
      refine z_iload_n C (zd tX12_readsBest 26 rfl) rfl ?_
      refine z_iconst C (zd tX12_readsBest 27 rfl) ?_
      refine z_iadd C (zd tX12_readsBest 28 rfl) ?_
      refine z_imul C (zd tX12_readsBest 29 rfl) ?_
      refine z_iload_n C (zd tX12_readsBest 30 rfl) rfl ?_
      refine z_iadd C (zd tX12_readsBest 31 rfl) ?_
      refine z_iconst C (zd tX12_readsBest 32 rfl) ?_
      refine z_iadd C (zd tX12_readsBest 33 rfl) ?_
      obtain ⟨q4, h⟩ := zck_some h
      refine za_iald C (lg_154 ho) rfl (by decide) q4 (zd tX12_readsBest 34 rfl) ?_
      refine z_iadd C (zd tX12_readsBest 35 rfl) ?_
      refine z_iload_n C (zd tX12_readsBest 36 rfl) rfl ?_
      obtain ⟨t5, et5, Rt5, h⟩ := zn_some h
      refine z_n1 (congrArg zI et5.symm) ?_
      refine z_icmp_ne (tgt := 59) C Rt5 (hv2.1 _ _) (zd tX12_readsBest 37 rfl) (by decide) h (fun h => ?_) (fun h => ?_)
      · refine z_aload_n C (zd tX12_readsBest 40 rfl) rfl ?_
        obtain ⟨v6, r7, cv6, h⟩ := zcl_some h
        refine zc_V C ho hz hRm (qX12_premiums _ _ _ _ hv2 cv6) (lg_137 ho) (by decide) rfl (zgV zwd_1173 zwd_1175 zws_46 zwd_13 zwd_1176) rfl pX12_premiums rfl ⟨rfl, rfl⟩ ⟨Nat.le_of_ble_eq_true rfl, Nat.le_of_ble_eq_true rfl⟩ [] rfl (Nat.le_of_ble_eq_true rfl) (zd tX12_readsBest 41 rfl) [zi r7] rfl (fun p8 => ?_)
        refine z_sub (lo' := [some (zr 137), some (zi x1), some (zi x2), some (zi (v2 154 ((680 * x2) + x1))), none, none]) (zsub_s (zsub_s (zsub_s (zsub_s (zsub_n (zsub_n zsub_0)))))) ?_
        exact jX12_readsBest_J63 C hN ho hz hRm _ _ v6 x1 x2 (v2 154 ((680 * x2) + x1)) r7 K1 trivial h p8.1 Rx1 Rx2 (hv2.1 _ _) p8.2 (fun w z1 z2 hw hvw y1 y2 => ih w z1 z2 _ hw hvw y1 y2 K1)
      · refine z_iconst C (zd tX12_readsBest 38 rfl) ?_
        refine z_goto (tgt := 63) C (zd tX12_readsBest 39 rfl) (by decide) ?_
        refine z_sub (lo' := [some (zr 137), some (zi x1), some (zi x2), some (zi (v2 154 ((680 * x2) + x1))), none, none]) (zsub_s (zsub_s (zsub_s (zsub_s (zsub_n (zsub_n zsub_0)))))) ?_
        exact jX12_readsBest_J63 C hN ho hz hRm _ _ v2 x1 x2 (v2 154 ((680 * x2) + x1)) (-1) K1 trivial h hv2 Rx1 Rx2 (hv2.1 _ _) (zR_c (-1) rfl) (fun w z1 z2 hw hvw y1 y2 => ih w z1 z2 _ hw hvw y1 y2 K1)
set_option maxRecDepth 100000 in
set_option maxHeartbeats 4000000 in
theorem qX12_readsBest (l : Launch) (D : va_G) (ids : Nat → ClassId) (b : Nat)  {v v' : zHp} {r' : Int} (hv : zV 137 24 v) (h : fX12_readsBest v = some (v', r')) : zCT l yX12_readsBest vsX12_readsBest rmX12_readsBest D ids b 137 False 24 [zr 137] v 24 (zV 137 24 v') none v' 0 0 := by
  refine zMet (own := RX12) (by decide +kernel) (show vsX12_readsBest = _ from rfl) (Nat.le_of_ble_eq_true rfl) rfl ?_
  intro E hl hRm hD hids hb ho hz hN C hname ret
  subst hl hD hids hb
  unfold fX12_readsBest at h
  refine z_iconst C (zd tX12_readsBest 0 rfl) ?_
  refine z_istore_n C (zd tX12_readsBest 1 rfl) (by rw [hN]; decide) ?_
  refine z_iconst C (zd tX12_readsBest 2 rfl) ?_
  refine z_istore_n C (zd tX12_readsBest 3 rfl) (by rw [hN]; decide) ?_
  refine z_sub (lo' := [some (zr 137), some (zi 0), some (zi 0), none, none, none]) (zsub_s (zsub_s (zsub_s (zsub_n (zsub_n (zsub_n zsub_0)))))) ?_
  obtain ⟨v40, w41, lv40, h⟩ := zl_some h
  refine bX12_readsBest_L4 C hN ho hz hRm zFU v 0 0 _ lv40 hv (zR_c 0 rfl) (zR_c 0 rfl) (fun w1 q1 e1 hv40 Rw41 => ?_)
  obtain ⟨rfl, rfl⟩ := zpp e1
  refine z_aload_n C (zd tX12_readsBest 108 rfl) rfl ?_
  refine z_iload_n C (zd tX12_readsBest 109 rfl) rfl ?_
  obtain ⟨v42, ev42, h⟩ := zb_some h
  have hv42 : zV 137 24 v42 := by rw [ev42]; exact hv40.st Rw41 (lg_137 ho).1 (Or.inr rfl)
  refine pf_12_32 C (lg_137 ho) zic_12 (zm zwd_1022) ev42 (zd tX12_readsBest 110 rfl) ?_
  obtain ⟨rfl, rfl⟩ := zpi h
  exact ret.2.1 _ _ hv42 rfl rfl (zd tX12_readsBest 111 rfl)
noncomputable def vsX12_laysWeek : List Cond := .code yX12_laysWeek cX12_laysWeek 3 none :: zbig
abbrev rmX12_laysWeek : Room := { frames := 5, cells := 0, slots := 0, locals := 117 }
theorem pX12_laysWeek : yX12_laysWeek.cls = RX12 ∧ yX12_laysWeek.cls ≠ "java/lang/invoke/MethodHandle" ∧ yX12_laysWeek.cls ≠ "java/lang/invoke/VarHandle" ∧ (parseMethodDescriptor yX12_laysWeek.desc).map (fun d => d.parameters.length) = some 2 := by decide +kernel
set_option maxRecDepth 100000 in
set_option maxHeartbeats 4000000 in
theorem qX12_laysWeek (l : Launch) (D : va_G) (ids : Nat → ClassId) (b : Nat) {x1 : Int} (Rx1 : zR x1) {x2 : Int} (Rx2 : zR x2) {v v' : zHp} {r' : Int} (hv : zV 137 24 v) (h : fX12_laysWeek v x1 x2 = some (v', r')) : zCT l yX12_laysWeek vsX12_laysWeek rmX12_laysWeek D ids b 137 False 24 [zr 137, zi x1, zi x2] v 24 (zV 137 24 v') none v' 0 0 := by
  refine zMet (own := RX12) (by decide +kernel) (show vsX12_laysWeek = _ from rfl) (Nat.le_of_ble_eq_true rfl) rfl ?_
  intro E hl hRm hD hids hb ho hz hN C hname ret
  subst hl hD hids hb
  unfold fX12_laysWeek at h
  refine z_aload_n C (zd tX12_laysWeek 0 rfl) rfl ?_
  refine z_iload_n C (zd tX12_laysWeek 1 rfl) rfl ?_
  obtain ⟨v1, r2, cv1, h⟩ := zcl_some h
  refine zc_V C ho hz hRm (qX12_laysWorked _ _ _ _ Rx1 hv cv1) (lg_137 ho) (by decide) rfl (zgV zwd_1267 zwd_1269 zws_61 zwd_13 zwd_1270) rfl pX12_laysWorked rfl ⟨rfl, rfl⟩ ⟨Nat.le_of_ble_eq_true rfl, Nat.le_of_ble_eq_true rfl⟩ [] rfl (Nat.le_of_ble_eq_true rfl) (zd tX12_laysWeek 2 rfl) [] rfl (fun p3 => ?_)
  refine z_aload_n C (zd tX12_laysWeek 3 rfl) rfl ?_
  refine z_iload_n C (zd tX12_laysWeek 4 rfl) rfl ?_
  obtain ⟨v4, r5, cv4, h⟩ := zcl_some h
  refine zc_V C ho hz hRm (qX12_laysQuarters _ _ _ _ Rx2 p3 cv4) (lg_137 ho) (by decide) rfl (zgV zwd_1279 zwd_1281 zws_64 zwd_13 zwd_1282) rfl pX12_laysQuarters rfl ⟨rfl, rfl⟩ ⟨Nat.le_of_ble_eq_true rfl, Nat.le_of_ble_eq_true rfl⟩ [] rfl (Nat.le_of_ble_eq_true rfl) (zd tX12_laysWeek 5 rfl) [] rfl (fun p6 => ?_)
  refine z_aload_n C (zd tX12_laysWeek 6 rfl) rfl ?_
  obtain ⟨v7, r8, cv7, h⟩ := zcl_some h
  refine zc_V C ho hz hRm (qX12_laysBest _ _ _ _ p6 cv7) (lg_137 ho) (by decide) rfl (zgV zwd_1295 zwd_1297 zws_68 zwd_13 zwd_1298) rfl pX12_laysBest rfl ⟨rfl, rfl⟩ ⟨Nat.le_of_ble_eq_true rfl, Nat.le_of_ble_eq_true rfl⟩ [] rfl (Nat.le_of_ble_eq_true rfl) (zd tX12_laysWeek 7 rfl) [] rfl (fun p9 => ?_)
  refine z_aload_n C (zd tX12_laysWeek 8 rfl) rfl ?_
  obtain ⟨v10, r11, cv10, h⟩ := zcl_some h
  refine zc_V C ho hz hRm (qX12_readsBest _ _ _ _ p9 cv10) (lg_137 ho) (by decide) rfl (zgV zwd_1311 zwd_1313 zws_72 zwd_13 zwd_1314) rfl pX12_readsBest rfl ⟨rfl, rfl⟩ ⟨Nat.le_of_ble_eq_true rfl, Nat.le_of_ble_eq_true rfl⟩ [] rfl (Nat.le_of_ble_eq_true rfl) (zd tX12_laysWeek 9 rfl) [] rfl (fun p12 => ?_)
  refine z_aload_n C (zd tX12_laysWeek 10 rfl) rfl ?_
  obtain ⟨v13, r14, cv13, h⟩ := zcl_some h
  refine zc_V C ho hz hRm (qX12_laysComing _ _ _ _ p12 cv13) (lg_137 ho) (by decide) rfl (zgV zwd_1319 zwd_1321 zws_74 zwd_13 zwd_1322) rfl pX12_laysComing rfl ⟨rfl, rfl⟩ ⟨Nat.le_of_ble_eq_true rfl, Nat.le_of_ble_eq_true rfl⟩ [] rfl (Nat.le_of_ble_eq_true rfl) (zd tX12_laysWeek 11 rfl) [] rfl (fun p15 => ?_)
  obtain ⟨rfl, rfl⟩ := zpi h
  exact ret.2.1 _ _ p15 rfl rfl (zd tX12_laysWeek 12 rfl)
noncomputable def vsX12_counted : List Cond := .code yX12_counted cX12_counted 4 (some .int) :: zbig
abbrev rmX12_counted : Room := { frames := 6, cells := 0, slots := 0, locals := 139 }
theorem pX12_counted : yX12_counted.cls = RX12 ∧ yX12_counted.cls ≠ "java/lang/invoke/MethodHandle" ∧ yX12_counted.cls ≠ "java/lang/invoke/VarHandle" ∧ (parseMethodDescriptor yX12_counted.desc).map (fun d => d.parameters.length) = some 3 := by decide +kernel
set_option maxRecDepth 100000 in
set_option maxHeartbeats 4000000 in
theorem qX12_counted (l : Launch) (D : va_G) (ids : Nat → ClassId) (b : Nat) {x1 : Int} (Rx1 : zR x1) {x2 : Int} (Rx2 : zR x2) {x3 : Int} (Rx3 : zR x3) {v v' : zHp} {r' : Int} (hv : zV 137 24 v) (h : fX12_counted v x1 x2 x3 = some (v', r')) : zCT l yX12_counted vsX12_counted rmX12_counted D ids b 137 False 24 [zr 137, zi x1, zi x2, zi x3] v 24 (zV 137 24 v' ∧ zR r') (some (zi r')) v' 0 0 := by
  refine zMet (own := RX12) (by decide +kernel) (show vsX12_counted = _ from rfl) (Nat.le_of_ble_eq_true rfl) rfl ?_
  intro E hl hRm hD hids hb ho hz hN C hname ret
  subst hl hD hids hb
  unfold fX12_counted at h
  refine z_aload_n C (zd tX12_counted 0 rfl) rfl ?_
  refine z_iconst C (zd tX12_counted 1 rfl) ?_
  obtain ⟨v1, ev1, h⟩ := zb_some h
  have hv1 : zV 137 24 v1 := by rw [ev1]; exact hv.st (zR_c 0 rfl) (lg_137 ho).1 (Or.inr rfl)
  refine pf_12_0 C (lg_137 ho) zic_12 (zm zwd_990) ev1 (zd tX12_counted 2 rfl) ?_
  refine z_aload_n C (zd tX12_counted 3 rfl) rfl ?_
  refine z_iload_n C (zd tX12_counted 4 rfl) rfl ?_
  obtain ⟨v2, r3, cv2, h⟩ := zcl_some h
  refine zc_V C ho hz hRm (qX12_isWorker _ _ _ _ Rx1 hv1 cv2) (lg_137 ho) (by decide) rfl (zgV zwd_1211 zwd_1213 zws_52 zwd_13 zwd_1214) rfl pX12_isWorker rfl ⟨rfl, rfl⟩ ⟨Nat.le_of_ble_eq_true rfl, Nat.le_of_ble_eq_true rfl⟩ [] rfl (Nat.le_of_ble_eq_true rfl) (zd tX12_counted 5 rfl) [zi r3] rfl (fun p4 => ?_)
  refine z_if_eq (tgt := 21) C p4.2 (zd tX12_counted 6 rfl) (by decide) h (fun h => ?_) (fun h => ?_)
  · refine z_iconst C (zd tX12_counted 11 rfl) ?_
    obtain ⟨rfl, rfl⟩ := zpi h
    exact ret.1 _ _ _ _ ⟨p4.1, (zR_c (-1) rfl)⟩ rfl rfl rfl (zd tX12_counted 12 rfl)
  · refine z_aload_n C (zd tX12_counted 7 rfl) rfl ?_
    refine z_iload_n C (zd tX12_counted 8 rfl) rfl ?_
    obtain ⟨v5, r6, cv5, h⟩ := zcl_some h
    refine zc_V C ho hz hRm (qX12_isWeek _ _ _ _ Rx2 p4.1 cv5) (lg_137 ho) (by decide) rfl (zgV zwd_1339 zwd_1341 zws_77 zwd_13 zwd_1342) rfl pX12_isWeek rfl ⟨rfl, rfl⟩ ⟨Nat.le_of_ble_eq_true rfl, Nat.le_of_ble_eq_true rfl⟩ [] rfl (Nat.le_of_ble_eq_true rfl) (zd tX12_counted 9 rfl) [zi r6] rfl (fun p7 => ?_)
    refine z_if_ne (tgt := 23) C p7.2 (zd tX12_counted 10 rfl) (by decide) h (fun h => ?_) (fun h => ?_)
    · refine z_aload_n C (zd tX12_counted 13 rfl) rfl ?_
      refine z_iload_n C (zd tX12_counted 14 rfl) rfl ?_
      refine z_iload_n C (zd tX12_counted 15 rfl) rfl ?_
      obtain ⟨v8, r9, cv8, h⟩ := zcl_some h
      refine zc_V C ho hz hRm (qX12_laysWeek _ _ _ _ Rx1 Rx2 p7.1 cv8) (lg_137 ho) (by decide) rfl (zgV zwd_1275 zwd_1277 zws_63 zwd_13 zwd_1278) rfl pX12_laysWeek rfl ⟨rfl, rfl⟩ ⟨Nat.le_of_ble_eq_true rfl, Nat.le_of_ble_eq_true rfl⟩ [] rfl (Nat.le_of_ble_eq_true rfl) (zd tX12_counted 16 rfl) [] rfl (fun p10 => ?_)
      refine z_iload_n C (zd tX12_counted 17 rfl) rfl ?_
      refine z_if_eq (tgt := 40) C Rx3 (zd tX12_counted 18 rfl) (by decide) h (fun h => ?_) (fun h => ?_)
      · refine z_aload_n C (zd tX12_counted 22 rfl) rfl ?_
        refine gf_12_32 C (lg_137 ho) zic_12 (zm zwd_1022) (zd tX12_counted 23 rfl) ?_
        obtain ⟨rfl, rfl⟩ := zpi h
        exact ret.1 _ _ _ _ ⟨p10, (p10.1 _ _)⟩ rfl rfl rfl (zd tX12_counted 24 rfl)
      · refine z_aload_n C (zd tX12_counted 19 rfl) rfl ?_
        refine gf_12_33 C (lg_137 ho) zic_12 (zm zwd_1023) (zd tX12_counted 20 rfl) ?_
        refine z_goto (tgt := 44) C (zd tX12_counted 21 rfl) (by decide) ?_
        obtain ⟨rfl, rfl⟩ := zpi h
        exact ret.1 _ _ _ _ ⟨p10, (p10.1 _ _)⟩ rfl rfl rfl (zd tX12_counted 24 rfl)
    · refine z_iconst C (zd tX12_counted 11 rfl) ?_
      obtain ⟨rfl, rfl⟩ := zpi h
      exact ret.1 _ _ _ _ ⟨p7.1, (zR_c (-1) rfl)⟩ rfl rfl rfl (zd tX12_counted 12 rfl)
noncomputable def vsX12_isAsked : List Cond := .code yX12_isAsked cX12_isAsked 2 (some .boolean) :: zbig
abbrev rmX12_isAsked : Room := { frames := 1, cells := 0, slots := 0, locals := 22 }
theorem pX12_isAsked : yX12_isAsked.cls = RX12 ∧ yX12_isAsked.cls ≠ "java/lang/invoke/MethodHandle" ∧ yX12_isAsked.cls ≠ "java/lang/invoke/VarHandle" ∧ (parseMethodDescriptor yX12_isAsked.desc).map (fun d => d.parameters.length) = some 1 := by decide +kernel
set_option maxRecDepth 100000 in
set_option maxHeartbeats 4000000 in
theorem qX12_isAsked (l : Launch) (D : va_G) (ids : Nat → ClassId) (b : Nat) {x1 : Int} (Rx1 : zR x1) {v v' : zHp} {r' : Int} (hv : zV 137 24 v) (h : fX12_isAsked v x1 = some (v', r')) : zCT l yX12_isAsked vsX12_isAsked rmX12_isAsked D ids b 137 False 24 [zr 137, zi x1] v 24 (zV 137 24 v' ∧ zR r') (some (zi r')) v' 0 0 := by
  refine zMet (own := RX12) (by decide +kernel) (show vsX12_isAsked = _ from rfl) (Nat.le_of_ble_eq_true rfl) rfl ?_
  intro E hl hRm hD hids hb ho hz hN C hname ret
  subst hl hD hids hb
  unfold fX12_isAsked at h
  refine z_iload_n C (zd tX12_isAsked 0 rfl) rfl ?_
  refine z_bipush C (by decide) (zd tX12_isAsked 1 rfl) ?_
  refine z_aload_n C (zd tX12_isAsked 2 rfl) rfl ?_
  obtain ⟨v1, r2, cv1, h⟩ := zcl_some h
  refine zc_V C ho hz hRm (qX12_premiums _ _ _ _ hv cv1) (lg_137 ho) (by decide) rfl (zgV zwd_1173 zwd_1175 zws_46 zwd_13 zwd_1176) rfl pX12_premiums rfl ⟨rfl, rfl⟩ ⟨Nat.le_of_ble_eq_true rfl, Nat.le_of_ble_eq_true rfl⟩ [zi (-2), zi x1] rfl (Nat.le_of_ble_eq_true rfl) (zd tX12_isAsked 3 rfl) [zi r2, zi (-2), zi x1] rfl (fun p3 => ?_)
  refine z_iconst C (zd tX12_isAsked 4 rfl) ?_
  refine z_isub C (zd tX12_isAsked 5 rfl) ?_
  obtain ⟨t4, et4, Rt4, h⟩ := zn_some h
  refine z_nk 0 (congrArg zI et4.symm) rfl ?_
  obtain ⟨v5, r6, cv5, h⟩ := zcl_some h
  refine zc_S C ho hz hRm (qX12_within _ _ _ _ Rx1 (zR_c (-2) rfl) Rt4 p3.1 cv5) (zgS zwd_1109 zwd_1110 zwd_13 zwd_1111) rfl pX12_within rfl ⟨rfl, rfl⟩ ⟨Nat.le_of_ble_eq_true rfl, Nat.le_of_ble_eq_true rfl⟩ [] rfl (Nat.le_of_ble_eq_true rfl) (zd tX12_isAsked 6 rfl) [zi r6] rfl (fun p7 => ?_)
  obtain ⟨q8, h⟩ := zck_some h
  obtain ⟨rfl, rfl⟩ := zpi h
  exact ret.1 _ _ _ _ ⟨p7.1, p7.2⟩ rfl rfl (zbool_n q8) (zd tX12_isAsked 7 rfl)
noncomputable def vsX12_isOf : List Cond := .code yX12_isOf cX12_isOf 3 (some .boolean) :: zbig
abbrev rmX12_isOf : Room := { frames := 0, cells := 0, slots := 0, locals := 0 }
theorem pX12_isOf : yX12_isOf.cls = RX12 ∧ yX12_isOf.cls ≠ "java/lang/invoke/MethodHandle" ∧ yX12_isOf.cls ≠ "java/lang/invoke/VarHandle" ∧ (parseMethodDescriptor yX12_isOf.desc).map (fun d => d.parameters.length) = some 2 := by decide +kernel
set_option maxRecDepth 100000 in
set_option maxHeartbeats 4000000 in
theorem qX12_isOf (l : Launch) (D : va_G) (ids : Nat → ClassId) (b : Nat) {x1 : Int} (Rx1 : zR x1) {x2 : Int} (Rx2 : zR x2) {v v' : zHp} {r' : Int} (hv : zV 137 24 v) (h : fX12_isOf v x1 x2 = some (v', r')) : zCT l yX12_isOf vsX12_isOf rmX12_isOf D ids b 137 False 24 [zr 137, zi x1, zi x2] v 24 (zV 137 24 v' ∧ zR r') (some (zi r')) v' 0 0 := by
  refine zMet (own := RX12) (by decide +kernel) (show vsX12_isOf = _ from rfl) (Nat.le_of_ble_eq_true rfl) rfl ?_
  intro E hl hRm hD hids hb ho hz hN C hname ret
  subst hl hD hids hb
  unfold fX12_isOf at h
  refine z_iload_n C (zd tX12_isOf 0 rfl) rfl ?_
  refine z_bipush C (by decide) (zd tX12_isOf 1 rfl) ?_
  refine z_icmp_eq (tgt := 16) C Rx2 (zR_c (-2) rfl) (zd tX12_isOf 2 rfl) (by decide) h (fun h => ?_) (fun h => ?_)
  · refine z_iconst C (zd tX12_isOf 9 rfl) ?_
    refine z_goto (tgt := 21) C (zd tX12_isOf 10 rfl) (by decide) ?_
    obtain ⟨rfl, rfl⟩ := zpi h
    exact ret.1 _ _ _ _ ⟨hv, (zR_c 1 rfl)⟩ rfl rfl (by decide) (zd tX12_isOf 12 rfl)
  · refine z_aload_n C (zd tX12_isOf 3 rfl) rfl ?_
    refine gl_12_26 (t := 151) C (lg_137 ho) zic_12 (zm zwd_1016) (vl_12_26 ho hv (lg_137 ho)) (zd tX12_isOf 4 rfl) ?_
    refine z_iload_n C (zd tX12_isOf 5 rfl) rfl ?_
    obtain ⟨q1, h⟩ := zck_some h
    refine za_iald C (lg_151 ho) rfl (by decide) q1 (zd tX12_isOf 6 rfl) ?_
    refine z_iload_n C (zd tX12_isOf 7 rfl) rfl ?_
    refine z_icmp_ne (tgt := 20) C (hv.1 _ _) Rx2 (zd tX12_isOf 8 rfl) (by decide) h (fun h => ?_) (fun h => ?_)
    · refine z_iconst C (zd tX12_isOf 11 rfl) ?_
      obtain ⟨rfl, rfl⟩ := zpi h
      exact ret.1 _ _ _ _ ⟨hv, (zR_c 0 rfl)⟩ rfl rfl (by decide) (zd tX12_isOf 12 rfl)
    · refine z_iconst C (zd tX12_isOf 9 rfl) ?_
      refine z_goto (tgt := 21) C (zd tX12_isOf 10 rfl) (by decide) ?_
      obtain ⟨rfl, rfl⟩ := zpi h
      exact ret.1 _ _ _ _ ⟨hv, (zR_c 1 rfl)⟩ rfl rfl (by decide) (zd tX12_isOf 12 rfl)
noncomputable def vsX12_day : List Cond := .code yX12_day cX12_day 6 (some .int) :: zbig
abbrev rmX12_day : Room := { frames := 6, cells := 0, slots := 0, locals := 139 }
theorem pX12_day : yX12_day.cls = RX12 ∧ yX12_day.cls ≠ "java/lang/invoke/MethodHandle" ∧ yX12_day.cls ≠ "java/lang/invoke/VarHandle" ∧ (parseMethodDescriptor yX12_day.desc).map (fun d => d.parameters.length) = some 3 := by decide +kernel
set_option maxRecDepth 100000 in
set_option maxHeartbeats 4000000 in
theorem bX12_day_L48 {E : zE} (C : zC E 24 cX12_day RX12 vsX12_day) (hN : zEN E = 6) (ho : zEo E = 137) (hz : zEz E = False) (hRm : zER E = rmX12_day) : ∀ (fu : Nat) (v : zHp) (x2 : Int) (x3 : Int) (x4 : Int) (x5 : Int) (res : (zHp × (Int))), fX12_day_L48 fu v x2 x3 x4 x5 = some res → zV 137 24 v → zR x2 → zR x3 → zR x4 → zR x5 → (∀ (w : zHp) (q : Int), res = (w, q) → zV 137 24 w → zR q → zX E 0 0 24 w 98 [none, none, none, none, some (zi q), none] []) → zX E 0 0 24 v 48 [some (zr 137), none, some (zi x2), some (zi x3), some (zi x4), some (zi x5)] [] := by
  intro fu
  induction fu with
  | zero =>
    intro v _ _ _ _ res h
    cases h
  | succ fu ih =>
    intro v x2 x3 x4 x5 res h hv Rx2 Rx3 Rx4 Rx5 K1
    rw [fX12_day_L48.eq_2] at h
    refine z_iload C (zd tX12_day 28 rfl) rfl ?_
    refine z_aload_n C (zd tX12_day 29 rfl) rfl ?_
    refine gf_12_23 C (lg_137 ho) zic_12 (zm zwd_1013) (zd tX12_day 30 rfl) ?_
    refine z_icmp_ge (tgt := 98) C Rx5 (hv.1 _ _) (zd tX12_day 31 rfl) (by decide) h (fun h => ?_) (fun h => ?_)
    · refine z_sub (lo' := [none, none, none, none, some (zi x4), none]) (zsub_n (zsub_n (zsub_n (zsub_n (zsub_s (zsub_n zsub_0)))))) ?_
      exact K1 _ _ (Option.some.inj h).symm hv Rx4
    · refine z_iload C (zd tX12_day 32 rfl) rfl ?_
      refine z_aload_n C (zd tX12_day 33 rfl) rfl ?_
      refine z_aload_n C (zd tX12_day 34 rfl) rfl ?_
      refine gl_12_24 (t := 149) C (lg_137 ho) zic_12 (zm zwd_1014) (vl_12_24 ho hv (lg_137 ho)) (zd tX12_day 35 rfl) ?_
      refine z_iload C (zd tX12_day 36 rfl) rfl ?_
      obtain ⟨q14, h⟩ := zck_some h
      refine za_iald C (lg_149 ho) rfl (by decide) q14 (zd tX12_day 37 rfl) ?_
      obtain ⟨v15, r16, cv15, h⟩ := zcl_some h
      refine zc_V C ho hz hRm (qX12_dayOf _ _ _ _ (hv.1 _ _) hv cv15) (lg_137 ho) (by decide) rfl (zgV zwd_1271 zwd_1273 zws_62 zwd_13 zwd_1274) rfl pX12_dayOf rfl ⟨rfl, rfl⟩ ⟨Nat.le_of_ble_eq_true rfl, Nat.le_of_ble_eq_true rfl⟩ [zi x4] rfl (Nat.le_of_ble_eq_true rfl) (zd tX12_day 38 rfl) [zi r16, zi x4] rfl (fun p17 => ?_)
      refine z_iload_n C (zd tX12_day 39 rfl) rfl ?_
      refine z_icmp_ne (tgt := 88) C p17.2 Rx2 (zd tX12_day 40 rfl) (by decide) h (fun h => ?_) (fun h => ?_)
      · refine z_iconst C (zd tX12_day 48 rfl) ?_
        refine z_iadd C (zd tX12_day 49 rfl) ?_
        obtain ⟨t18, et18, Rt18, h⟩ := zn_some h
        refine z_n0 (congrArg zI et18.symm) ?_
        refine z_istore C (zd tX12_day 50 rfl) (by rw [hN]; decide) ?_
        obtain ⟨t19, et19, Rt19, h⟩ := zn_some h
        refine z_iincE C (zd tX12_day 51 rfl) (by rw [hN]; decide) rfl et19 ?_
        refine z_goto (tgt := 48) C (zd tX12_day 52 rfl) (by decide) ?_
        refine z_sub (lo' := [some (zr 137), none, some (zi x2), some (zi x3), some (zi t18), some (zi t19)]) (zsub_s (zsub_n (zsub_s (zsub_s (zsub_s (zsub_s zsub_0)))))) ?_
        exact ih v15 x2 x3 t18 t19 _ h p17.1 Rx2 Rx3 Rt18 Rt19 K1
      · refine z_aload_n C (zd tX12_day 41 rfl) rfl ?_
        refine z_iload C (zd tX12_day 42 rfl) rfl ?_
        refine z_iload_n C (zd tX12_day 43 rfl) rfl ?_
        obtain ⟨v20, r21, cv20, h⟩ := zcl_some h
        refine zc_V C ho hz hRm (qX12_isOf _ _ _ _ Rx5 Rx3 p17.1 cv20) (lg_137 ho) (by decide) rfl (zgV zwd_1331 zwd_1333 zws_76 zwd_13 zwd_1334) rfl pX12_isOf rfl ⟨rfl, rfl⟩ ⟨Nat.le_of_ble_eq_true rfl, Nat.le_of_ble_eq_true rfl⟩ [zi x4] rfl (Nat.le_of_ble_eq_true rfl) (zd tX12_day 44 rfl) [zi r21, zi x4] rfl (fun p22 => ?_)
        refine z_if_eq (tgt := 88) C p22.2 (zd tX12_day 45 rfl) (by decide) h (fun h => ?_) (fun h => ?_)
        · refine z_iconst C (zd tX12_day 48 rfl) ?_
          refine z_iadd C (zd tX12_day 49 rfl) ?_
          obtain ⟨t23, et23, Rt23, h⟩ := zn_some h
          refine z_n0 (congrArg zI et23.symm) ?_
          refine z_istore C (zd tX12_day 50 rfl) (by rw [hN]; decide) ?_
          obtain ⟨t24, et24, Rt24, h⟩ := zn_some h
          refine z_iincE C (zd tX12_day 51 rfl) (by rw [hN]; decide) rfl et24 ?_
          refine z_goto (tgt := 48) C (zd tX12_day 52 rfl) (by decide) ?_
          refine z_sub (lo' := [some (zr 137), none, some (zi x2), some (zi x3), some (zi t23), some (zi t24)]) (zsub_s (zsub_n (zsub_s (zsub_s (zsub_s (zsub_s zsub_0)))))) ?_
          exact ih v20 x2 x3 t23 t24 _ h p22.1 Rx2 Rx3 Rt23 Rt24 K1
        · refine z_iconst C (zd tX12_day 46 rfl) ?_
          refine z_goto (tgt := 89) C (zd tX12_day 47 rfl) (by decide) ?_
          refine z_iadd C (zd tX12_day 49 rfl) ?_
          obtain ⟨t25, et25, Rt25, h⟩ := zn_some h
          refine z_n0 (congrArg zI et25.symm) ?_
          refine z_istore C (zd tX12_day 50 rfl) (by rw [hN]; decide) ?_
          obtain ⟨t26, et26, Rt26, h⟩ := zn_some h
          refine z_iincE C (zd tX12_day 51 rfl) (by rw [hN]; decide) rfl et26 ?_
          refine z_goto (tgt := 48) C (zd tX12_day 52 rfl) (by decide) ?_
          refine z_sub (lo' := [some (zr 137), none, some (zi x2), some (zi x3), some (zi t25), some (zi t26)]) (zsub_s (zsub_n (zsub_s (zsub_s (zsub_s (zsub_s zsub_0)))))) ?_
          exact ih v20 x2 x3 t25 t26 _ h p22.1 Rx2 Rx3 Rt25 Rt26 K1
set_option maxRecDepth 100000 in
set_option maxHeartbeats 4000000 in
theorem qX12_day (l : Launch) (D : va_G) (ids : Nat → ClassId) (b : Nat) {x1 : Int} (Rx1 : zR x1) {x2 : Int} (Rx2 : zR x2) {x3 : Int} (Rx3 : zR x3) {v v' : zHp} {r' : Int} (hv : zV 137 24 v) (h : fX12_day v x1 x2 x3 = some (v', r')) : zCT l yX12_day vsX12_day rmX12_day D ids b 137 False 24 [zr 137, zi x1, zi x2, zi x3] v 24 (zV 137 24 v' ∧ zR r') (some (zi r')) v' 0 0 := by
  refine zMet (own := RX12) (by decide +kernel) (show vsX12_day = _ from rfl) (Nat.le_of_ble_eq_true rfl) rfl ?_
  intro E hl hRm hD hids hb ho hz hN C hname ret
  subst hl hD hids hb
  unfold fX12_day at h
  refine z_aload_n C (zd tX12_day 0 rfl) rfl ?_
  refine z_iconst C (zd tX12_day 1 rfl) ?_
  obtain ⟨v1, ev1, h⟩ := zb_some h
  have hv1 : zV 137 24 v1 := by rw [ev1]; exact hv.st (zR_c 0 rfl) (lg_137 ho).1 (Or.inr rfl)
  refine pf_12_0 C (lg_137 ho) zic_12 (zm zwd_990) ev1 (zd tX12_day 2 rfl) ?_
  refine z_aload_n C (zd tX12_day 3 rfl) rfl ?_
  refine z_iload_n C (zd tX12_day 4 rfl) rfl ?_
  obtain ⟨v2, r3, cv2, h⟩ := zcl_some h
  refine zc_V C ho hz hRm (qX12_isWorker _ _ _ _ Rx1 hv1 cv2) (lg_137 ho) (by decide) rfl (zgV zwd_1211 zwd_1213 zws_52 zwd_13 zwd_1214) rfl pX12_isWorker rfl ⟨rfl, rfl⟩ ⟨Nat.le_of_ble_eq_true rfl, Nat.le_of_ble_eq_true rfl⟩ [] rfl (Nat.le_of_ble_eq_true rfl) (zd tX12_day 5 rfl) [zi r3] rfl (fun p4 => ?_)
  refine z_if_eq (tgt := 31) C p4.2 (zd tX12_day 6 rfl) (by decide) h (fun h => ?_) (fun h => ?_)
  · refine z_iconst C (zd tX12_day 16 rfl) ?_
    obtain ⟨rfl, rfl⟩ := zpi h
    exact ret.1 _ _ _ _ ⟨p4.1, (zR_c (-1) rfl)⟩ rfl rfl rfl (zd tX12_day 17 rfl)
  · refine z_iload_n C (zd tX12_day 7 rfl) rfl ?_
    refine z_iconst C (zd tX12_day 8 rfl) ?_
    refine z_bipush C (by decide) (zd tX12_day 9 rfl) ?_
    obtain ⟨v5, r6, cv5, h⟩ := zcl_some h
    refine zc_S C ho hz hRm (qX12_within _ _ _ _ Rx2 (zR_c 0 rfl) (zR_c 27 rfl) p4.1 cv5) (zgS zwd_1109 zwd_1110 zwd_13 zwd_1111) rfl pX12_within rfl ⟨rfl, rfl⟩ ⟨Nat.le_of_ble_eq_true rfl, Nat.le_of_ble_eq_true rfl⟩ [] rfl (Nat.le_of_ble_eq_true rfl) (zd tX12_day 10 rfl) [zi r6] rfl (fun p7 => ?_)
    refine z_if_eq (tgt := 31) C p7.2 (zd tX12_day 11 rfl) (by decide) h (fun h => ?_) (fun h => ?_)
    · refine z_iconst C (zd tX12_day 16 rfl) ?_
      obtain ⟨rfl, rfl⟩ := zpi h
      exact ret.1 _ _ _ _ ⟨p7.1, (zR_c (-1) rfl)⟩ rfl rfl rfl (zd tX12_day 17 rfl)
    · refine z_aload_n C (zd tX12_day 12 rfl) rfl ?_
      refine z_iload_n C (zd tX12_day 13 rfl) rfl ?_
      obtain ⟨v8, r9, cv8, h⟩ := zcl_some h
      refine zc_V C ho hz hRm (qX12_isAsked _ _ _ _ Rx3 p7.1 cv8) (lg_137 ho) (by decide) rfl (zgV zwd_1327 zwd_1329 zws_75 zwd_13 zwd_1330) rfl pX12_isAsked rfl ⟨rfl, rfl⟩ ⟨Nat.le_of_ble_eq_true rfl, Nat.le_of_ble_eq_true rfl⟩ [] rfl (Nat.le_of_ble_eq_true rfl) (zd tX12_day 14 rfl) [zi r9] rfl (fun p10 => ?_)
      refine z_if_ne (tgt := 33) C p10.2 (zd tX12_day 15 rfl) (by decide) h (fun h => ?_) (fun h => ?_)
      · refine z_aload_n C (zd tX12_day 18 rfl) rfl ?_
        refine z_iload_n C (zd tX12_day 19 rfl) rfl ?_
        refine z_iload_n C (zd tX12_day 20 rfl) rfl ?_
        refine z_bipush C (by decide) (zd tX12_day 21 rfl) ?_
        refine z_idiv C Rx2 (by decide) (zR_c 7 rfl) (zd tX12_day 22 rfl) ?_
        obtain ⟨v11, r12, cv11, h⟩ := zcl_some h
        refine zc_V C ho hz hRm (qX12_laysWeek _ _ _ _ Rx1 (zR_div Rx2 (by decide)) p10.1 cv11) (lg_137 ho) (by decide) rfl (zgV zwd_1275 zwd_1277 zws_63 zwd_13 zwd_1278) rfl pX12_laysWeek rfl ⟨rfl, rfl⟩ ⟨Nat.le_of_ble_eq_true rfl, Nat.le_of_ble_eq_true rfl⟩ [] rfl (Nat.le_of_ble_eq_true rfl) (zd tX12_day 23 rfl) [] rfl (fun p13 => ?_)
        refine z_iconst C (zd tX12_day 24 rfl) ?_
        refine z_istore C (zd tX12_day 25 rfl) (by rw [hN]; decide) ?_
        refine z_iconst C (zd tX12_day 26 rfl) ?_
        refine z_istore C (zd tX12_day 27 rfl) (by rw [hN]; decide) ?_
        refine z_sub (lo' := [some (zr 137), none, some (zi x2), some (zi x3), some (zi 0), some (zi 0)]) (zsub_s (zsub_n (zsub_s (zsub_s (zsub_s (zsub_s zsub_0)))))) ?_
        obtain ⟨v27, w28, lv27, h⟩ := zl_some h
        refine bX12_day_L48 C hN ho hz hRm zFU v11 x2 x3 0 0 _ lv27 p13 Rx2 Rx3 (zR_c 0 rfl) (zR_c 0 rfl) (fun w1 q1 e1 hv27 Rw28 => ?_)
        obtain ⟨rfl, rfl⟩ := zpp e1
        refine z_iload C (zd tX12_day 53 rfl) rfl ?_
        obtain ⟨rfl, rfl⟩ := zpi h
        exact ret.1 _ _ _ _ ⟨hv27, Rw28⟩ rfl rfl rfl (zd tX12_day 54 rfl)
      · refine z_iconst C (zd tX12_day 16 rfl) ?_
        obtain ⟨rfl, rfl⟩ := zpi h
        exact ret.1 _ _ _ _ ⟨p10.1, (zR_c (-1) rfl)⟩ rfl rfl rfl (zd tX12_day 17 rfl)
noncomputable def vsX12_hundredths : List Cond := .code yX12_hundredths cX12_hundredths 3 (some .int) :: zbig
abbrev rmX12_hundredths : Room := { frames := 1, cells := 0, slots := 0, locals := 22 }
theorem pX12_hundredths : yX12_hundredths.cls = RX12 ∧ yX12_hundredths.cls ≠ "java/lang/invoke/MethodHandle" ∧ yX12_hundredths.cls ≠ "java/lang/invoke/VarHandle" ∧ (parseMethodDescriptor yX12_hundredths.desc).map (fun d => d.parameters.length) = some 2 := by decide +kernel
set_option maxRecDepth 100000 in
set_option maxHeartbeats 4000000 in
theorem qX12_hundredths (l : Launch) (D : va_G) (ids : Nat → ClassId) (b : Nat) {a1 : Nat} (k1 : zK a1 = (20, 680)) {x2 : Int} (Rx2 : zR x2) {v v' : zHp} {r' : Int} (hv : zV 137 24 v) (h : fX12_hundredths v a1 x2 = some (v', r')) : zCT l yX12_hundredths vsX12_hundredths rmX12_hundredths D ids b 137 False 24 [zr 137, zr a1, zi x2] v 24 (zV 137 24 v' ∧ zR r') (some (zi r')) v' 0 0 := by
  refine zMet (own := RX12) (by decide +kernel) (show vsX12_hundredths = _ from rfl) (Nat.le_of_ble_eq_true rfl) rfl ?_
  intro E hl hRm hD hids hb ho hz hN C hname ret
  subst hl hD hids hb
  have ga1 := ka_20_680 ho k1
  unfold fX12_hundredths at h
  refine z_bipush C (by decide) (zd tX12_hundredths 0 rfl) ?_
  refine z_aload_n C (zd tX12_hundredths 1 rfl) rfl ?_
  refine z_iload_n C (zd tX12_hundredths 2 rfl) rfl ?_
  obtain ⟨q1, h⟩ := zck_some h
  refine za_iald C ga1 rfl (by decide) q1 (zd tX12_hundredths 3 rfl) ?_
  refine z_iconst C (zd tX12_hundredths 4 rfl) ?_
  refine z_icmp_ne (tgt := 13) C (hv.1 _ _) (zR_c (-1) rfl) (zd tX12_hundredths 5 rfl) (by decide) h (fun h => ?_) (fun h => ?_)
  · refine z_aload_n C (zd tX12_hundredths 8 rfl) rfl ?_
    refine z_aload_n C (zd tX12_hundredths 9 rfl) rfl ?_
    refine z_iload_n C (zd tX12_hundredths 10 rfl) rfl ?_
    obtain ⟨q2, h⟩ := zck_some h
    refine za_iald C ga1 rfl (by decide) q2 (zd tX12_hundredths 11 rfl) ?_
    refine z_iconst C (zd tX12_hundredths 12 rfl) ?_
    obtain ⟨v3, r4, cv3, h⟩ := zcl_some h
    refine zc_V C ho hz hRm (qX12_premiumIs _ _ _ _ (hv.1 _ _) (zR_c 1 rfl) hv cv3) (lg_137 ho) (by decide) rfl (zgV zwd_1177 zwd_1179 zws_47 zwd_13 zwd_1180) rfl pX12_premiumIs rfl ⟨rfl, rfl⟩ ⟨Nat.le_of_ble_eq_true rfl, Nat.le_of_ble_eq_true rfl⟩ [zi 100] rfl (Nat.le_of_ble_eq_true rfl) (zd tX12_hundredths 13 rfl) [zi r4, zi 100] rfl (fun p5 => ?_)
    refine z_iadd C (zd tX12_hundredths 14 rfl) ?_
    obtain ⟨t6, et6, Rt6, h⟩ := zn_some h
    refine z_n0 (congrArg zI et6.symm) ?_
    obtain ⟨rfl, rfl⟩ := zpi h
    exact ret.1 _ _ _ _ ⟨p5.1, Rt6⟩ rfl rfl rfl (zd tX12_hundredths 15 rfl)
  · refine z_iconst C (zd tX12_hundredths 6 rfl) ?_
    refine z_goto (tgt := 21) C (zd tX12_hundredths 7 rfl) (by decide) ?_
    refine z_iadd C (zd tX12_hundredths 14 rfl) ?_
    obtain ⟨t7, et7, Rt7, h⟩ := zn_some h
    refine z_n0 (congrArg zI et7.symm) ?_
    obtain ⟨rfl, rfl⟩ := zpi h
    exact ret.1 _ _ _ _ ⟨hv, Rt7⟩ rfl rfl rfl (zd tX12_hundredths 15 rfl)
noncomputable def vsX12_dayPay : List Cond := .code yX12_dayPay cX12_dayPay 5 (some .int) :: zbig
abbrev rmX12_dayPay : Room := { frames := 6, cells := 0, slots := 0, locals := 139 }
theorem pX12_dayPay : yX12_dayPay.cls = RX12 ∧ yX12_dayPay.cls ≠ "java/lang/invoke/MethodHandle" ∧ yX12_dayPay.cls ≠ "java/lang/invoke/VarHandle" ∧ (parseMethodDescriptor yX12_dayPay.desc).map (fun d => d.parameters.length) = some 2 := by decide +kernel
set_option maxRecDepth 100000 in
set_option maxHeartbeats 4000000 in
theorem bX12_dayPay_L39 {E : zE} (C : zC E 24 cX12_dayPay RX12 vsX12_dayPay) (hN : zEN E = 5) (ho : zEo E = 137) (hz : zEz E = False) (hRm : zER E = rmX12_dayPay) : ∀ (fu : Nat) (v : zHp) (x2 : Int) (x3 : Int) (x4 : Int) (res : (zHp × (Int))), fX12_dayPay_L39 fu v x2 x3 x4 = some res → zV 137 24 v → zR x2 → zR x3 → zR x4 → (∀ (w : zHp) (q : Int), res = (w, q) → zV 137 24 w → zR q → zX E 0 0 24 w 86 [some (zr 137), none, none, some (zi q), none] []) → zX E 0 0 24 v 39 [some (zr 137), none, some (zi x2), some (zi x3), some (zi x4)] [] := by
  intro fu
  induction fu with
  | zero =>
    intro v _ _ _ res h
    cases h
  | succ fu ih =>
    intro v x2 x3 x4 res h hv Rx2 Rx3 Rx4 K1
    rw [fX12_dayPay_L39.eq_2] at h
    refine z_iload C (zd tX12_dayPay 24 rfl) rfl ?_
    refine z_aload_n C (zd tX12_dayPay 25 rfl) rfl ?_
    refine gf_12_23 C (lg_137 ho) zic_12 (zm zwd_1013) (zd tX12_dayPay 26 rfl) ?_
    refine z_icmp_ge (tgt := 86) C Rx4 (hv.1 _ _) (zd tX12_dayPay 27 rfl) (by decide) h (fun h => ?_) (fun h => ?_)
    · refine z_sub (lo' := [some (zr 137), none, none, some (zi x3), none]) (zsub_s (zsub_n (zsub_n (zsub_s (zsub_n zsub_0))))) ?_
      exact K1 _ _ (Option.some.inj h).symm hv Rx3
    · refine z_iload_n C (zd tX12_dayPay 28 rfl) rfl ?_
      refine z_aload_n C (zd tX12_dayPay 29 rfl) rfl ?_
      refine z_aload_n C (zd tX12_dayPay 30 rfl) rfl ?_
      refine gl_12_24 (t := 149) C (lg_137 ho) zic_12 (zm zwd_1014) (vl_12_24 ho hv (lg_137 ho)) (zd tX12_dayPay 31 rfl) ?_
      refine z_iload C (zd tX12_dayPay 32 rfl) rfl ?_
      obtain ⟨q11, h⟩ := zck_some h
      refine za_iald C (lg_149 ho) rfl (by decide) q11 (zd tX12_dayPay 33 rfl) ?_
      obtain ⟨v12, r13, cv12, h⟩ := zcl_some h
      refine zc_V C ho hz hRm (qX12_dayOf _ _ _ _ (hv.1 _ _) hv cv12) (lg_137 ho) (by decide) rfl (zgV zwd_1271 zwd_1273 zws_62 zwd_13 zwd_1274) rfl pX12_dayOf rfl ⟨rfl, rfl⟩ ⟨Nat.le_of_ble_eq_true rfl, Nat.le_of_ble_eq_true rfl⟩ [zi x3] rfl (Nat.le_of_ble_eq_true rfl) (zd tX12_dayPay 34 rfl) [zi r13, zi x3] rfl (fun p14 => ?_)
      refine z_iload_n C (zd tX12_dayPay 35 rfl) rfl ?_
      refine z_icmp_ne (tgt := 77) C p14.2 Rx2 (zd tX12_dayPay 36 rfl) (by decide) h (fun h => ?_) (fun h => ?_)
      · refine z_iconst C (zd tX12_dayPay 43 rfl) ?_
        refine z_iadd C (zd tX12_dayPay 44 rfl) ?_
        obtain ⟨t15, et15, Rt15, h⟩ := zn_some h
        refine z_n0 (congrArg zI et15.symm) ?_
        refine z_istore_n C (zd tX12_dayPay 45 rfl) (by rw [hN]; decide) ?_
        obtain ⟨t16, et16, Rt16, h⟩ := zn_some h
        refine z_iincE C (zd tX12_dayPay 46 rfl) (by rw [hN]; decide) rfl et16 ?_
        refine z_goto (tgt := 39) C (zd tX12_dayPay 47 rfl) (by decide) ?_
        refine z_sub (lo' := [some (zr 137), none, some (zi x2), some (zi t15), some (zi t16)]) (zsub_s (zsub_n (zsub_s (zsub_s (zsub_s zsub_0))))) ?_
        exact ih v12 x2 t15 t16 _ h p14.1 Rx2 Rt15 Rt16 K1
      · refine z_aload_n C (zd tX12_dayPay 37 rfl) rfl ?_
        refine z_aload_n C (zd tX12_dayPay 38 rfl) rfl ?_
        refine gl_12_26 (t := 151) C (lg_137 ho) zic_12 (zm zwd_1016) (vl_12_26 ho p14.1 (lg_137 ho)) (zd tX12_dayPay 39 rfl) ?_
        refine z_iload C (zd tX12_dayPay 40 rfl) rfl ?_
        obtain ⟨v17, r18, cv17, h⟩ := zcl_some h
        refine zc_V C ho hz hRm (qX12_hundredths _ _ _ _ (lg_151 ho).1 Rx4 p14.1 cv17) (lg_137 ho) (by decide) rfl (zgV zwd_1351 zwd_1353 zws_78 zwd_13 zwd_1354) rfl pX12_hundredths rfl ⟨rfl, rfl⟩ ⟨Nat.le_of_ble_eq_true rfl, Nat.le_of_ble_eq_true rfl⟩ [zi x3] rfl (Nat.le_of_ble_eq_true rfl) (zd tX12_dayPay 41 rfl) [zi r18, zi x3] rfl (fun p19 => ?_)
        refine z_goto (tgt := 78) C (zd tX12_dayPay 42 rfl) (by decide) ?_
        refine z_iadd C (zd tX12_dayPay 44 rfl) ?_
        obtain ⟨t20, et20, Rt20, h⟩ := zn_some h
        refine z_n0 (congrArg zI et20.symm) ?_
        refine z_istore_n C (zd tX12_dayPay 45 rfl) (by rw [hN]; decide) ?_
        obtain ⟨t21, et21, Rt21, h⟩ := zn_some h
        refine z_iincE C (zd tX12_dayPay 46 rfl) (by rw [hN]; decide) rfl et21 ?_
        refine z_goto (tgt := 39) C (zd tX12_dayPay 47 rfl) (by decide) ?_
        refine z_sub (lo' := [some (zr 137), none, some (zi x2), some (zi t20), some (zi t21)]) (zsub_s (zsub_n (zsub_s (zsub_s (zsub_s zsub_0))))) ?_
        exact ih v17 x2 t20 t21 _ h p19.1 Rx2 Rt20 Rt21 K1
set_option maxRecDepth 100000 in
set_option maxHeartbeats 4000000 in
theorem qX12_dayPay (l : Launch) (D : va_G) (ids : Nat → ClassId) (b : Nat) {x1 : Int} (Rx1 : zR x1) {x2 : Int} (Rx2 : zR x2) {v v' : zHp} {r' : Int} (hv : zV 137 24 v) (h : fX12_dayPay v x1 x2 = some (v', r')) : zCT l yX12_dayPay vsX12_dayPay rmX12_dayPay D ids b 137 False 24 [zr 137, zi x1, zi x2] v 24 (zV 137 24 v' ∧ zR r') (some (zi r')) v' 0 0 := by
  refine zMet (own := RX12) (by decide +kernel) (show vsX12_dayPay = _ from rfl) (Nat.le_of_ble_eq_true rfl) rfl ?_
  intro E hl hRm hD hids hb ho hz hN C hname ret
  subst hl hD hids hb
  unfold fX12_dayPay at h
  refine z_aload_n C (zd tX12_dayPay 0 rfl) rfl ?_
  refine z_iconst C (zd tX12_dayPay 1 rfl) ?_
  obtain ⟨v1, ev1, h⟩ := zb_some h
  have hv1 : zV 137 24 v1 := by rw [ev1]; exact hv.st (zR_c 0 rfl) (lg_137 ho).1 (Or.inr rfl)
  refine pf_12_0 C (lg_137 ho) zic_12 (zm zwd_990) ev1 (zd tX12_dayPay 2 rfl) ?_
  refine z_aload_n C (zd tX12_dayPay 3 rfl) rfl ?_
  refine z_iload_n C (zd tX12_dayPay 4 rfl) rfl ?_
  obtain ⟨v2, r3, cv2, h⟩ := zcl_some h
  refine zc_V C ho hz hRm (qX12_isWorker _ _ _ _ Rx1 hv1 cv2) (lg_137 ho) (by decide) rfl (zgV zwd_1211 zwd_1213 zws_52 zwd_13 zwd_1214) rfl pX12_isWorker rfl ⟨rfl, rfl⟩ ⟨Nat.le_of_ble_eq_true rfl, Nat.le_of_ble_eq_true rfl⟩ [] rfl (Nat.le_of_ble_eq_true rfl) (zd tX12_dayPay 5 rfl) [zi r3] rfl (fun p4 => ?_)
  refine z_if_eq (tgt := 23) C p4.2 (zd tX12_dayPay 6 rfl) (by decide) h (fun h => ?_) (fun h => ?_)
  · refine z_iconst C (zd tX12_dayPay 12 rfl) ?_
    obtain ⟨rfl, rfl⟩ := zpi h
    exact ret.1 _ _ _ _ ⟨p4.1, (zR_c (-1) rfl)⟩ rfl rfl rfl (zd tX12_dayPay 13 rfl)
  · refine z_iload_n C (zd tX12_dayPay 7 rfl) rfl ?_
    refine z_iconst C (zd tX12_dayPay 8 rfl) ?_
    refine z_bipush C (by decide) (zd tX12_dayPay 9 rfl) ?_
    obtain ⟨v5, r6, cv5, h⟩ := zcl_some h
    refine zc_S C ho hz hRm (qX12_within _ _ _ _ Rx2 (zR_c 0 rfl) (zR_c 27 rfl) p4.1 cv5) (zgS zwd_1109 zwd_1110 zwd_13 zwd_1111) rfl pX12_within rfl ⟨rfl, rfl⟩ ⟨Nat.le_of_ble_eq_true rfl, Nat.le_of_ble_eq_true rfl⟩ [] rfl (Nat.le_of_ble_eq_true rfl) (zd tX12_dayPay 10 rfl) [zi r6] rfl (fun p7 => ?_)
    refine z_if_ne (tgt := 25) C p7.2 (zd tX12_dayPay 11 rfl) (by decide) h (fun h => ?_) (fun h => ?_)
    · refine z_aload_n C (zd tX12_dayPay 14 rfl) rfl ?_
      refine z_iload_n C (zd tX12_dayPay 15 rfl) rfl ?_
      refine z_iload_n C (zd tX12_dayPay 16 rfl) rfl ?_
      refine z_bipush C (by decide) (zd tX12_dayPay 17 rfl) ?_
      refine z_idiv C Rx2 (by decide) (zR_c 7 rfl) (zd tX12_dayPay 18 rfl) ?_
      obtain ⟨v8, r9, cv8, h⟩ := zcl_some h
      refine zc_V C ho hz hRm (qX12_laysWeek _ _ _ _ Rx1 (zR_div Rx2 (by decide)) p7.1 cv8) (lg_137 ho) (by decide) rfl (zgV zwd_1275 zwd_1277 zws_63 zwd_13 zwd_1278) rfl pX12_laysWeek rfl ⟨rfl, rfl⟩ ⟨Nat.le_of_ble_eq_true rfl, Nat.le_of_ble_eq_true rfl⟩ [] rfl (Nat.le_of_ble_eq_true rfl) (zd tX12_dayPay 19 rfl) [] rfl (fun p10 => ?_)
      refine z_iconst C (zd tX12_dayPay 20 rfl) ?_
      refine z_istore_n C (zd tX12_dayPay 21 rfl) (by rw [hN]; decide) ?_
      refine z_iconst C (zd tX12_dayPay 22 rfl) ?_
      refine z_istore C (zd tX12_dayPay 23 rfl) (by rw [hN]; decide) ?_
      refine z_sub (lo' := [some (zr 137), none, some (zi x2), some (zi 0), some (zi 0)]) (zsub_s (zsub_n (zsub_s (zsub_s (zsub_s zsub_0))))) ?_
      obtain ⟨v22, w23, lv22, h⟩ := zl_some h
      refine bX12_dayPay_L39 C hN ho hz hRm zFU v8 x2 0 0 _ lv22 p10 Rx2 (zR_c 0 rfl) (zR_c 0 rfl) (fun w1 q1 e1 hv22 Rw23 => ?_)
      obtain ⟨rfl, rfl⟩ := zpp e1
      refine z_aload_n C (zd tX12_dayPay 48 rfl) rfl ?_
      refine gl_12_10 (t := 139) C (lg_137 ho) zic_12 (zm zwd_1000) (vl_12_10 ho hv22 (lg_137 ho)) (zd tX12_dayPay 49 rfl) ?_
      refine z_iconst C (zd tX12_dayPay 50 rfl) ?_
      obtain ⟨q24, h⟩ := zck_some h
      refine za_iald C (lg_139 ho) rfl (by decide) q24 (zd tX12_dayPay 51 rfl) ?_
      refine z_iload_n C (zd tX12_dayPay 52 rfl) rfl ?_
      refine z_imul C (zd tX12_dayPay 53 rfl) ?_
      obtain ⟨t25, et25, Rt25, h⟩ := zn_some h
      refine z_n0 (congrArg zI et25.symm) ?_
      obtain ⟨rfl, rfl⟩ := zpi h
      exact ret.1 _ _ _ _ ⟨hv22, Rt25⟩ rfl rfl rfl (zd tX12_dayPay 54 rfl)
    · refine z_iconst C (zd tX12_dayPay 12 rfl) ?_
      obtain ⟨rfl, rfl⟩ := zpi h
      exact ret.1 _ _ _ _ ⟨p7.1, (zR_c (-1) rfl)⟩ rfl rfl rfl (zd tX12_dayPay 13 rfl)
noncomputable def vsX12_leaves : List Cond := .code yX12_leaves cX12_leaves 4 none :: zbig
abbrev rmX12_leaves : Room := { frames := 0, cells := 0, slots := 0, locals := 0 }
theorem pX12_leaves : yX12_leaves.cls = RX12 ∧ yX12_leaves.cls ≠ "java/lang/invoke/MethodHandle" ∧ yX12_leaves.cls ≠ "java/lang/invoke/VarHandle" ∧ (parseMethodDescriptor yX12_leaves.desc).map (fun d => d.parameters.length) = some 2 := by decide +kernel
set_option maxRecDepth 100000 in
set_option maxHeartbeats 4000000 in
theorem bX12_leaves_L12 {E : zE} (C : zC E 24 cX12_leaves RX12 vsX12_leaves) (hN : zEN E = 4) (ho : zEo E = 137) (hz : zEz E = False) (hRm : zER E = rmX12_leaves) : ∀ (fu : Nat) (v : zHp) (x1 : Int) (x2 : Int) (x3 : Int) (res : (zHp × (Int))), fX12_leaves_L12 fu v x1 x2 x3 = some res → zV 137 24 v → zR x1 → zR x2 → zR x3 → (∀ (w : zHp) (q : Int), res = (w, q) → zV 137 24 w → True → zX E 0 0 24 w 91 [none, none, none, none] []) → zX E 0 0 24 v 12 [some (zr 137), some (zi x1), some (zi x2), some (zi x3)] [] := by
  intro fu
  induction fu with
  | zero =>
    intro v _ _ _ res h
    cases h
  | succ fu ih =>
    intro v x1 x2 x3 res h hv Rx1 Rx2 Rx3 K1
    rw [fX12_leaves_L12.eq_2] at h
    refine z_iload_n C (zd tX12_leaves 10 rfl) rfl ?_
    refine z_aload_n C (zd tX12_leaves 11 rfl) rfl ?_
    refine gl_12_13 (t := 141) C (lg_137 ho) zic_12 (zm zwd_1003) (vl_12_13 ho hv (lg_137 ho)) (zd tX12_leaves 12 rfl) ?_
    refine z_iload_n C (zd tX12_leaves 13 rfl) rfl ?_
    obtain ⟨q5, h⟩ := zck_some h
    refine za_iald C (lg_141 ho) rfl (by decide) q5 (zd tX12_leaves 14 rfl) ?_
    refine z_icmp_ge (tgt := 91) C Rx3 (hv.1 _ _) (zd tX12_leaves 15 rfl) (by decide) h (fun h => ?_) (fun h => ?_)
    · refine z_sub (lo' := [none, none, none, none]) (zsub_n (zsub_n (zsub_n (zsub_n zsub_0)))) ?_
      exact K1 _ _ (Option.some.inj h).symm hv trivial
    · refine z_aload_n C (zd tX12_leaves 16 rfl) rfl ?_
      refine gl_12_14 (t := 142) C (lg_137 ho) zic_12 (zm zwd_1004) (vl_12_14 ho hv (lg_137 ho)) (zd tX12_leaves 17 rfl) ?_
      refine z_bipush C (by decide) (zd tX12_leaves 18 rfl) ?_
      refine z_iload_n C (zd tX12_leaves 19 rfl) rfl ?_
      refine z_imul C (zd tX12_leaves 20 rfl) ?_
      refine z_iload_n C (zd tX12_leaves 21 rfl) rfl ?_
      refine z_iadd C (zd tX12_leaves 22 rfl) ?_
      obtain ⟨q6, h⟩ := zck_some h
      refine za_iald C (lg_142 ho) rfl (by decide) q6 (zd tX12_leaves 23 rfl) ?_
      refine z_iload_n C (zd tX12_leaves 24 rfl) rfl ?_
      refine z_icmp_lt (tgt := 85) C (hv.1 _ _) Rx2 (zd tX12_leaves 25 rfl) (by decide) h (fun h => ?_) (fun h => ?_)
      · obtain ⟨t7, et7, Rt7, h⟩ := zn_some h
        refine z_iincE C (zd tX12_leaves 62 rfl) (by rw [hN]; decide) rfl et7 ?_
        refine z_goto (tgt := 12) C (zd tX12_leaves 63 rfl) (by decide) ?_
        refine z_sub (lo' := [some (zr 137), some (zi x1), some (zi x2), some (zi t7)]) (zsub_s (zsub_s (zsub_s (zsub_s zsub_0)))) ?_
        exact ih v x1 x2 t7 _ h hv Rx1 Rx2 Rt7 K1
      · refine z_aload_n C (zd tX12_leaves 26 rfl) rfl ?_
        refine gl_12_14 (t := 142) C (lg_137 ho) zic_12 (zm zwd_1004) (vl_12_14 ho hv (lg_137 ho)) (zd tX12_leaves 27 rfl) ?_
        refine z_bipush C (by decide) (zd tX12_leaves 28 rfl) ?_
        refine z_iload_n C (zd tX12_leaves 29 rfl) rfl ?_
        refine z_imul C (zd tX12_leaves 30 rfl) ?_
        refine z_iload_n C (zd tX12_leaves 31 rfl) rfl ?_
        refine z_iadd C (zd tX12_leaves 32 rfl) ?_
        refine z_aload_n C (zd tX12_leaves 33 rfl) rfl ?_
        refine gl_12_14 (t := 142) C (lg_137 ho) zic_12 (zm zwd_1004) (vl_12_14 ho hv (lg_137 ho)) (zd tX12_leaves 34 rfl) ?_
        refine z_bipush C (by decide) (zd tX12_leaves 35 rfl) ?_
        refine z_iload_n C (zd tX12_leaves 36 rfl) rfl ?_
        refine z_imul C (zd tX12_leaves 37 rfl) ?_
        refine z_iload_n C (zd tX12_leaves 38 rfl) rfl ?_
        refine z_iadd C (zd tX12_leaves 39 rfl) ?_
        refine z_iconst C (zd tX12_leaves 40 rfl) ?_
        refine z_iadd C (zd tX12_leaves 41 rfl) ?_
        obtain ⟨q8, h⟩ := zck_some h
        refine za_iald C (lg_142 ho) rfl (by decide) q8 (zd tX12_leaves 42 rfl) ?_
        obtain ⟨q9, h⟩ := zck_some h
        obtain ⟨v10, ev10, h⟩ := zb_some h
        have hv10 : zV 137 24 v10 := by rw [ev10]; exact hv.st (hv.1 _ _) (lg_142 ho).1 (Or.inr rfl)
        refine za_iast C (lg_142 ho) rfl (by decide) q9 ev10 (zd tX12_leaves 43 rfl) ?_
        refine z_aload_n C (zd tX12_leaves 44 rfl) rfl ?_
        refine gl_12_15 (t := 143) C (lg_137 ho) zic_12 (zm zwd_1005) (vl_12_15 ho hv10 (lg_137 ho)) (zd tX12_leaves 45 rfl) ?_
        refine z_bipush C (by decide) (zd tX12_leaves 46 rfl) ?_
        refine z_iload_n C (zd tX12_leaves 47 rfl) rfl ?_
        refine z_imul C (zd tX12_leaves 48 rfl) ?_
        refine z_iload_n C (zd tX12_leaves 49 rfl) rfl ?_
        refine z_iadd C (zd tX12_leaves 50 rfl) ?_
        refine z_aload_n C (zd tX12_leaves 51 rfl) rfl ?_
        refine gl_12_15 (t := 143) C (lg_137 ho) zic_12 (zm zwd_1005) (vl_12_15 ho hv10 (lg_137 ho)) (zd tX12_leaves 52 rfl) ?_
        refine z_bipush C (by decide) (zd tX12_leaves 53 rfl) ?_
        refine z_iload_n C (zd tX12_leaves 54 rfl) rfl ?_
        refine z_imul C (zd tX12_leaves 55 rfl) ?_
        refine z_iload_n C (zd tX12_leaves 56 rfl) rfl ?_
        refine z_iadd C (zd tX12_leaves 57 rfl) ?_
        refine z_iconst C (zd tX12_leaves 58 rfl) ?_
        refine z_iadd C (zd tX12_leaves 59 rfl) ?_
        obtain ⟨q11, h⟩ := zck_some h
        refine za_iald C (lg_143 ho) rfl (by decide) q11 (zd tX12_leaves 60 rfl) ?_
        obtain ⟨q12, h⟩ := zck_some h
        obtain ⟨v13, ev13, h⟩ := zb_some h
        have hv13 : zV 137 24 v13 := by rw [ev13]; exact hv10.st (hv10.1 _ _) (lg_143 ho).1 (Or.inr rfl)
        refine za_iast C (lg_143 ho) rfl (by decide) q12 ev13 (zd tX12_leaves 61 rfl) ?_
        obtain ⟨t14, et14, Rt14, h⟩ := zn_some h
        refine z_iincE C (zd tX12_leaves 62 rfl) (by rw [hN]; decide) rfl et14 ?_
        refine z_goto (tgt := 12) C (zd tX12_leaves 63 rfl) (by decide) ?_
        refine z_sub (lo' := [some (zr 137), some (zi x1), some (zi x2), some (zi t14)]) (zsub_s (zsub_s (zsub_s (zsub_s zsub_0)))) ?_
        exact ih v13 x1 x2 t14 _ h hv13 Rx1 Rx2 Rt14 K1
set_option maxRecDepth 100000 in
set_option maxHeartbeats 4000000 in
theorem qX12_leaves (l : Launch) (D : va_G) (ids : Nat → ClassId) (b : Nat) {x1 : Int} (Rx1 : zR x1) {x2 : Int} (Rx2 : zR x2) {v v' : zHp} {r' : Int} (hv : zV 137 24 v) (h : fX12_leaves v x1 x2 = some (v', r')) : zCT l yX12_leaves vsX12_leaves rmX12_leaves D ids b 137 False 24 [zr 137, zi x1, zi x2] v 24 (zV 137 24 v') none v' 0 0 := by
  refine zMet (own := RX12) (by decide +kernel) (show vsX12_leaves = _ from rfl) (Nat.le_of_ble_eq_true rfl) rfl ?_
  intro E hl hRm hD hids hb ho hz hN C hname ret
  subst hl hD hids hb
  unfold fX12_leaves at h
  refine z_aload_n C (zd tX12_leaves 0 rfl) rfl ?_
  refine gl_12_13 (t := 141) C (lg_137 ho) zic_12 (zm zwd_1003) (vl_12_13 ho hv (lg_137 ho)) (zd tX12_leaves 1 rfl) ?_
  refine z_iload_n C (zd tX12_leaves 2 rfl) rfl ?_
  refine z_dup2 C (zd tX12_leaves 3 rfl) ?_
  obtain ⟨q1, h⟩ := zck_some h
  refine za_iald C (lg_141 ho) rfl (by decide) q1 (zd tX12_leaves 4 rfl) ?_
  refine z_iconst C (zd tX12_leaves 5 rfl) ?_
  refine z_isub C (zd tX12_leaves 6 rfl) ?_
  obtain ⟨t2, et2, Rt2, h⟩ := zn_some h
  refine z_n0 (congrArg zI et2.symm) ?_
  obtain ⟨q3, h⟩ := zck_some h
  obtain ⟨v4, ev4, h⟩ := zb_some h
  have hv4 : zV 137 24 v4 := by rw [ev4]; exact hv.st Rt2 (lg_141 ho).1 (Or.inr rfl)
  refine za_iast C (lg_141 ho) rfl (by decide) q3 ev4 (zd tX12_leaves 7 rfl) ?_
  refine z_iconst C (zd tX12_leaves 8 rfl) ?_
  refine z_istore_n C (zd tX12_leaves 9 rfl) (by rw [hN]; decide) ?_
  refine z_sub (lo' := [some (zr 137), some (zi x1), some (zi x2), some (zi 0)]) (zsub_s (zsub_s (zsub_s (zsub_s zsub_0)))) ?_
  obtain ⟨v15, w16, lv15, h⟩ := zl_some h
  refine bX12_leaves_L12 C hN ho hz hRm zFU v4 x1 x2 0 _ lv15 hv4 Rx1 Rx2 (zR_c 0 rfl) (fun w1 q1 e1 hv15 Rw16 => ?_)
  obtain ⟨rfl, rfl⟩ := zpp e1
  obtain ⟨rfl, rfl⟩ := zpi h
  exact ret.2.1 _ _ hv15 rfl rfl (zd tX12_leaves 64 rfl)
noncomputable def vsX12_momentOf : List Cond := .code yX12_momentOf cX12_momentOf 7 (some .int) :: zbig
abbrev rmX12_momentOf : Room := { frames := 1, cells := 0, slots := 0, locals := 22 }
theorem pX12_momentOf : yX12_momentOf.cls = RX12 ∧ yX12_momentOf.cls ≠ "java/lang/invoke/MethodHandle" ∧ yX12_momentOf.cls ≠ "java/lang/invoke/VarHandle" ∧ (parseMethodDescriptor yX12_momentOf.desc).map (fun d => d.parameters.length) = some 3 := by decide +kernel
set_option maxRecDepth 100000 in
set_option maxHeartbeats 4000000 in
theorem jX12_momentOf_J80 {E : zE} (C : zC E 24 cX12_momentOf RX12 vsX12_momentOf) (hN : zEN E = 7) (ho : zEo E = 137) (hz : zEz E = False) (hRm : zER E = rmX12_momentOf) {v' : zHp} {r' : Int} (ret : zRet E cX12_momentOf 0 0 24 (some .int) (zV 137 24 v' ∧ zR r') (some (zi r')) v') (v : zHp) (x3 : Int) (x4 : Int) (x5 : Int) (s0 : Int) (h : fX12_momentOf_J80 v x3 x4 x5 s0 = some (v', r')) (hv : zV 137 24 v) (Rx3 : zR x3) (Rx4 : zR x4) (Rx5 : zR x5) (Rs0 : zR s0) : zX E 0 0 24 v 80 [some (zr 137), none, none, some (zi x3), some (zi x4), some (zi x5), none] [zi s0] := by
  unfold fX12_momentOf_J80 at h
  refine z_istore C (zd tX12_momentOf 43 rfl) (by rw [hN]; decide) ?_
  refine z_iload_n C (zd tX12_momentOf 44 rfl) rfl ?_
  refine z_if_eq (tgt := 111) C Rx3 (zd tX12_momentOf 45 rfl) (by decide) h (fun h => ?_) (fun h => ?_)
  · refine z_iload C (zd tX12_momentOf 59 rfl) rfl ?_
    refine z_if_eq (tgt := 125) C Rx5 (zd tX12_momentOf 60 rfl) (by decide) h (fun h => ?_) (fun h => ?_)
    · refine z_iload C (zd tX12_momentOf 65 rfl) rfl ?_
      obtain ⟨rfl, rfl⟩ := zpi h
      exact ret.1 _ _ _ _ ⟨hv, Rx4⟩ rfl rfl rfl (zd tX12_momentOf 66 rfl)
    · refine z_iload C (zd tX12_momentOf 61 rfl) rfl ?_
      refine z_aload_n C (zd tX12_momentOf 62 rfl) rfl ?_
      obtain ⟨v9, r10, cv9, h⟩ := zcl_some h
      refine zc_V C ho hz hRm (qX12_turned _ _ _ _ hv cv9) (lg_137 ho) (by decide) rfl (zgV zwd_1189 zwd_1191 zws_49 zwd_13 zwd_1192) rfl pX12_turned rfl ⟨rfl, rfl⟩ ⟨Nat.le_of_ble_eq_true rfl, Nat.le_of_ble_eq_true rfl⟩ [zi x4] rfl (Nat.le_of_ble_eq_true rfl) (zd tX12_momentOf 63 rfl) [zi r10, zi x4] rfl (fun p11 => ?_)
      refine z_icmp_ge (tgt := 128) C Rx4 p11.2 (zd tX12_momentOf 64 rfl) (by decide) h (fun h => ?_) (fun h => ?_)
      · refine z_aload_n C (zd tX12_momentOf 67 rfl) rfl ?_
        refine gl_12_10 (t := 139) C (lg_137 ho) zic_12 (zm zwd_1000) (vl_12_10 ho p11.1 (lg_137 ho)) (zd tX12_momentOf 68 rfl) ?_
        refine z_bipush C (by decide) (zd tX12_momentOf 69 rfl) ?_
        obtain ⟨q12, h⟩ := zck_some h
        refine za_iald C (lg_139 ho) rfl (by decide) q12 (zd tX12_momentOf 70 rfl) ?_
        refine z_iconst C (zd tX12_momentOf 71 rfl) ?_
        refine z_icmp_ne (tgt := 154) C (p11.1.1 _ _) (zR_c 1 rfl) (zd tX12_momentOf 72 rfl) (by decide) h (fun h => ?_) (fun h => ?_)
        · refine z_iload C (zd tX12_momentOf 81 rfl) rfl ?_
          refine z_if_eq (tgt := 164) C Rs0 (zd tX12_momentOf 82 rfl) (by decide) h (fun h => ?_) (fun h => ?_)
          · refine z_iload C (zd tX12_momentOf 85 rfl) rfl ?_
            refine z_bipush C (by decide) (zd tX12_momentOf 86 rfl) ?_
            refine z_iadd C (zd tX12_momentOf 87 rfl) ?_
            obtain ⟨t13, et13, Rt13, h⟩ := zn_some h
            refine z_n0 (congrArg zI et13.symm) ?_
            obtain ⟨rfl, rfl⟩ := zpi h
            exact ret.1 _ _ _ _ ⟨p11.1, Rt13⟩ rfl rfl rfl (zd tX12_momentOf 88 rfl)
          · refine z_iload C (zd tX12_momentOf 83 rfl) rfl ?_
            refine z_goto (tgt := 169) C (zd tX12_momentOf 84 rfl) (by decide) ?_
            obtain ⟨rfl, rfl⟩ := zpi h
            exact ret.1 _ _ _ _ ⟨p11.1, Rx4⟩ rfl rfl rfl (zd tX12_momentOf 88 rfl)
        · refine z_iload C (zd tX12_momentOf 73 rfl) rfl ?_
          refine z_if_eq (tgt := 148) C Rs0 (zd tX12_momentOf 74 rfl) (by decide) h (fun h => ?_) (fun h => ?_)
          · refine z_iload C (zd tX12_momentOf 77 rfl) rfl ?_
            refine z_bipush C (by decide) (zd tX12_momentOf 78 rfl) ?_
            refine z_isub C (zd tX12_momentOf 79 rfl) ?_
            obtain ⟨t14, et14, Rt14, h⟩ := zn_some h
            refine z_n0 (congrArg zI et14.symm) ?_
            obtain ⟨rfl, rfl⟩ := zpi h
            exact ret.1 _ _ _ _ ⟨p11.1, Rt14⟩ rfl rfl rfl (zd tX12_momentOf 80 rfl)
          · refine z_iconst C (zd tX12_momentOf 75 rfl) ?_
            refine z_goto (tgt := 153) C (zd tX12_momentOf 76 rfl) (by decide) ?_
            obtain ⟨rfl, rfl⟩ := zpi h
            exact ret.1 _ _ _ _ ⟨p11.1, (zR_c (-1) rfl)⟩ rfl rfl rfl (zd tX12_momentOf 80 rfl)
      · refine z_iload C (zd tX12_momentOf 65 rfl) rfl ?_
        obtain ⟨rfl, rfl⟩ := zpi h
        exact ret.1 _ _ _ _ ⟨p11.1, Rx4⟩ rfl rfl rfl (zd tX12_momentOf 66 rfl)
  · refine z_iload C (zd tX12_momentOf 46 rfl) rfl ?_
    refine z_if_eq (tgt := 109) C Rs0 (zd tX12_momentOf 47 rfl) (by decide) h (fun h => ?_) (fun h => ?_)
    · refine z_iconst C (zd tX12_momentOf 57 rfl) ?_
      obtain ⟨rfl, rfl⟩ := zpi h
      exact ret.1 _ _ _ _ ⟨hv, (zR_c (-1) rfl)⟩ rfl rfl rfl (zd tX12_momentOf 58 rfl)
    · refine z_aload_n C (zd tX12_momentOf 48 rfl) rfl ?_
      refine gl_12_10 (t := 139) C (lg_137 ho) zic_12 (zm zwd_1000) (vl_12_10 ho hv (lg_137 ho)) (zd tX12_momentOf 49 rfl) ?_
      refine z_bipush C (by decide) (zd tX12_momentOf 50 rfl) ?_
      obtain ⟨q15, h⟩ := zck_some h
      refine za_iald C (lg_139 ho) rfl (by decide) q15 (zd tX12_momentOf 51 rfl) ?_
      refine z_if_ne (tgt := 109) C (hv.1 _ _) (zd tX12_momentOf 52 rfl) (by decide) h (fun h => ?_) (fun h => ?_)
      · refine z_iconst C (zd tX12_momentOf 57 rfl) ?_
        obtain ⟨rfl, rfl⟩ := zpi h
        exact ret.1 _ _ _ _ ⟨hv, (zR_c (-1) rfl)⟩ rfl rfl rfl (zd tX12_momentOf 58 rfl)
      · refine z_iload C (zd tX12_momentOf 53 rfl) rfl ?_
        refine z_bipush C (by decide) (zd tX12_momentOf 54 rfl) ?_
        refine z_iadd C (zd tX12_momentOf 55 rfl) ?_
        refine z_goto (tgt := 110) C (zd tX12_momentOf 56 rfl) (by decide) ?_
        obtain ⟨t16, et16, Rt16, h⟩ := zn_some h
        refine z_n0 (congrArg zI et16.symm) ?_
        obtain ⟨rfl, rfl⟩ := zpi h
        exact ret.1 _ _ _ _ ⟨hv, Rt16⟩ rfl rfl rfl (zd tX12_momentOf 58 rfl)
set_option maxRecDepth 100000 in
set_option maxHeartbeats 4000000 in
theorem jX12_momentOf_J79 {E : zE} (C : zC E 24 cX12_momentOf RX12 vsX12_momentOf) (hN : zEN E = 7) (ho : zEo E = 137) (hz : zEz E = False) (hRm : zER E = rmX12_momentOf) {v' : zHp} {r' : Int} (ret : zRet E cX12_momentOf 0 0 24 (some .int) (zV 137 24 v' ∧ zR r') (some (zi r')) v') (v : zHp) (x3 : Int) (x4 : Int) (x5 : Int) (h : fX12_momentOf_J79 v x3 x4 x5 = some (v', r')) (hv : zV 137 24 v) (Rx3 : zR x3) (Rx4 : zR x4) (Rx5 : zR x5) : zX E 0 0 24 v 79 [some (zr 137), none, none, some (zi x3), some (zi x4), some (zi x5), none] [] := by
  unfold fX12_momentOf_J79 at h
  refine z_iconst C (zd tX12_momentOf 42 rfl) ?_
  refine z_sub (lo' := [some (zr 137), none, none, some (zi x3), some (zi x4), some (zi x5), none]) (zsub_s (zsub_n (zsub_n (zsub_s (zsub_s (zsub_s (zsub_n zsub_0))))))) ?_
  exact jX12_momentOf_J80 C hN ho hz hRm ret v x3 x4 x5 0 h hv Rx3 Rx4 Rx5 (zR_c 0 rfl)
set_option maxRecDepth 100000 in
set_option maxHeartbeats 4000000 in
theorem jX12_momentOf_J47 {E : zE} (C : zC E 24 cX12_momentOf RX12 vsX12_momentOf) (hN : zEN E = 7) (ho : zEo E = 137) (hz : zEz E = False) (hRm : zER E = rmX12_momentOf) {v' : zHp} {r' : Int} (ret : zRet E cX12_momentOf 0 0 24 (some .int) (zV 137 24 v' ∧ zR r') (some (zi r')) v') (v : zHp) (x3 : Int) (x4 : Int) (s0 : Int) (h : fX12_momentOf_J47 v x3 x4 s0 = some (v', r')) (hv : zV 137 24 v) (Rx3 : zR x3) (Rx4 : zR x4) (Rs0 : zR s0) : zX E 0 0 24 v 47 [some (zr 137), none, none, some (zi x3), some (zi x4), none, none] [zi s0] := by
  unfold fX12_momentOf_J47 at h
  refine z_istore C (zd tX12_momentOf 27 rfl) (by rw [hN]; decide) ?_
  refine z_iload C (zd tX12_momentOf 28 rfl) rfl ?_
  refine z_if_eq (tgt := 79) C Rs0 (zd tX12_momentOf 29 rfl) (by decide) h (fun h => ?_) (fun h => ?_)
  · refine z_sub (lo' := [some (zr 137), none, none, some (zi x3), some (zi x4), some (zi s0), none]) (zsub_s (zsub_n (zsub_n (zsub_s (zsub_s (zsub_s (zsub_n zsub_0))))))) ?_
    exact jX12_momentOf_J79 C hN ho hz hRm ret v x3 x4 s0 h hv Rx3 Rx4 Rs0
  · refine z_iload C (zd tX12_momentOf 30 rfl) rfl ?_
    refine z_aload_n C (zd tX12_momentOf 31 rfl) rfl ?_
    obtain ⟨v17, r18, cv17, h⟩ := zcl_some h
    refine zc_V C ho hz hRm (qX12_turned _ _ _ _ hv cv17) (lg_137 ho) (by decide) rfl (zgV zwd_1189 zwd_1191 zws_49 zwd_13 zwd_1192) rfl pX12_turned rfl ⟨rfl, rfl⟩ ⟨Nat.le_of_ble_eq_true rfl, Nat.le_of_ble_eq_true rfl⟩ [zi x4] rfl (Nat.le_of_ble_eq_true rfl) (zd tX12_momentOf 32 rfl) [zi r18, zi x4] rfl (fun p19 => ?_)
    refine z_icmp_lt (tgt := 79) C Rx4 p19.2 (zd tX12_momentOf 33 rfl) (by decide) h (fun h => ?_) (fun h => ?_)
    · refine z_sub (lo' := [some (zr 137), none, none, some (zi x3), some (zi x4), some (zi s0), none]) (zsub_s (zsub_n (zsub_n (zsub_s (zsub_s (zsub_s (zsub_n zsub_0))))))) ?_
      exact jX12_momentOf_J79 C hN ho hz hRm ret v17 x3 x4 s0 h p19.1 Rx3 Rx4 Rs0
    · refine z_iload C (zd tX12_momentOf 34 rfl) rfl ?_
      refine z_aload_n C (zd tX12_momentOf 35 rfl) rfl ?_
      obtain ⟨v20, r21, cv20, h⟩ := zcl_some h
      refine zc_V C ho hz hRm (qX12_turned _ _ _ _ p19.1 cv20) (lg_137 ho) (by decide) rfl (zgV zwd_1189 zwd_1191 zws_49 zwd_13 zwd_1192) rfl pX12_turned rfl ⟨rfl, rfl⟩ ⟨Nat.le_of_ble_eq_true rfl, Nat.le_of_ble_eq_true rfl⟩ [zi x4] rfl (Nat.le_of_ble_eq_true rfl) (zd tX12_momentOf 36 rfl) [zi r21, zi x4] rfl (fun p22 => ?_)
      refine z_bipush C (by decide) (zd tX12_momentOf 37 rfl) ?_
      refine z_iadd C (zd tX12_momentOf 38 rfl) ?_
      obtain ⟨t23, et23, Rt23, h⟩ := zn_some h
      refine z_n0 (congrArg zI et23.symm) ?_
      refine z_icmp_ge (tgt := 79) C Rx4 Rt23 (zd tX12_momentOf 39 rfl) (by decide) h (fun h => ?_) (fun h => ?_)
      · refine z_sub (lo' := [some (zr 137), none, none, some (zi x3), some (zi x4), some (zi s0), none]) (zsub_s (zsub_n (zsub_n (zsub_s (zsub_s (zsub_s (zsub_n zsub_0))))))) ?_
        exact jX12_momentOf_J79 C hN ho hz hRm ret v20 x3 x4 s0 h p22.1 Rx3 Rx4 Rs0
      · refine z_iconst C (zd tX12_momentOf 40 rfl) ?_
        refine z_goto (tgt := 80) C (zd tX12_momentOf 41 rfl) (by decide) ?_
        refine z_sub (lo' := [some (zr 137), none, none, some (zi x3), some (zi x4), some (zi s0), none]) (zsub_s (zsub_n (zsub_n (zsub_s (zsub_s (zsub_s (zsub_n zsub_0))))))) ?_
        exact jX12_momentOf_J80 C hN ho hz hRm ret v20 x3 x4 s0 1 h p22.1 Rx3 Rx4 Rs0 (zR_c 1 rfl)
set_option maxRecDepth 100000 in
set_option maxHeartbeats 4000000 in
theorem qX12_momentOf (l : Launch) (D : va_G) (ids : Nat → ClassId) (b : Nat) {x1 : Int} (Rx1 : zR x1) {x2 : Int} (Rx2 : zR x2) {x3 : Int} (Rx3 : zR x3) {v v' : zHp} {r' : Int} (hv : zV 137 24 v) (h : fX12_momentOf v x1 x2 x3 = some (v', r')) : zCT l yX12_momentOf vsX12_momentOf rmX12_momentOf D ids b 137 False 24 [zr 137, zi x1, zi x2, zi x3] v 24 (zV 137 24 v' ∧ zR r') (some (zi r')) v' 0 0 := by
  refine zMet (own := RX12) (by decide +kernel) (show vsX12_momentOf = _ from rfl) (Nat.le_of_ble_eq_true rfl) rfl ?_
  intro E hl hRm hD hids hb ho hz hN C hname ret
  subst hl hD hids hb
  unfold fX12_momentOf at h
  refine z_iload_n C (zd tX12_momentOf 0 rfl) rfl ?_
  refine z_iconst C (zd tX12_momentOf 1 rfl) ?_
  refine z_bipush C (by decide) (zd tX12_momentOf 2 rfl) ?_
  obtain ⟨v1, r2, cv1, h⟩ := zcl_some h
  refine zc_S C ho hz hRm (qX12_within _ _ _ _ Rx1 (zR_c 0 rfl) (zR_c 27 rfl) hv cv1) (zgS zwd_1109 zwd_1110 zwd_13 zwd_1111) rfl pX12_within rfl ⟨rfl, rfl⟩ ⟨Nat.le_of_ble_eq_true rfl, Nat.le_of_ble_eq_true rfl⟩ [] rfl (Nat.le_of_ble_eq_true rfl) (zd tX12_momentOf 3 rfl) [zi r2] rfl (fun p3 => ?_)
  refine z_if_eq (tgt := 21) C p3.2 (zd tX12_momentOf 4 rfl) (by decide) h (fun h => ?_) (fun h => ?_)
  · refine z_iconst C (zd tX12_momentOf 10 rfl) ?_
    obtain ⟨rfl, rfl⟩ := zpi h
    exact ret.1 _ _ _ _ ⟨p3.1, (zR_c (-1) rfl)⟩ rfl rfl rfl (zd tX12_momentOf 11 rfl)
  · refine z_iload_n C (zd tX12_momentOf 5 rfl) rfl ?_
    refine z_iconst C (zd tX12_momentOf 6 rfl) ?_
    refine z_sipush C (by decide) (zd tX12_momentOf 7 rfl) ?_
    obtain ⟨v4, r5, cv4, h⟩ := zcl_some h
    refine zc_S C ho hz hRm (qX12_within _ _ _ _ Rx2 (zR_c 0 rfl) (zR_c 1439 rfl) p3.1 cv4) (zgS zwd_1109 zwd_1110 zwd_13 zwd_1111) rfl pX12_within rfl ⟨rfl, rfl⟩ ⟨Nat.le_of_ble_eq_true rfl, Nat.le_of_ble_eq_true rfl⟩ [] rfl (Nat.le_of_ble_eq_true rfl) (zd tX12_momentOf 8 rfl) [zi r5] rfl (fun p6 => ?_)
    refine z_if_ne (tgt := 23) C p6.2 (zd tX12_momentOf 9 rfl) (by decide) h (fun h => ?_) (fun h => ?_)
    · refine z_sipush C (by decide) (zd tX12_momentOf 12 rfl) ?_
      refine z_iload_n C (zd tX12_momentOf 13 rfl) rfl ?_
      refine z_imul C (zd tX12_momentOf 14 rfl) ?_
      refine z_iload_n C (zd tX12_momentOf 15 rfl) rfl ?_
      refine z_iadd C (zd tX12_momentOf 16 rfl) ?_
      obtain ⟨t7, et7, Rt7, h⟩ := zn_some h
      refine z_n0 (congrArg zI et7.symm) ?_
      refine z_istore C (zd tX12_momentOf 17 rfl) (by rw [hN]; decide) ?_
      refine z_aload_n C (zd tX12_momentOf 18 rfl) rfl ?_
      refine gl_12_10 (t := 139) C (lg_137 ho) zic_12 (zm zwd_1000) (vl_12_10 ho p6.1 (lg_137 ho)) (zd tX12_momentOf 19 rfl) ?_
      refine z_iconst C (zd tX12_momentOf 20 rfl) ?_
      obtain ⟨q8, h⟩ := zck_some h
      refine za_iald C (lg_139 ho) rfl (by decide) q8 (zd tX12_momentOf 21 rfl) ?_
      refine z_iconst C (zd tX12_momentOf 22 rfl) ?_
      refine z_icmp_eq (tgt := 46) C (p6.1.1 _ _) (zR_c (-1) rfl) (zd tX12_momentOf 23 rfl) (by decide) h (fun h => ?_) (fun h => ?_)
      · refine z_iconst C (zd tX12_momentOf 26 rfl) ?_
        refine z_sub (lo' := [some (zr 137), none, none, some (zi x3), some (zi t7), none, none]) (zsub_s (zsub_n (zsub_n (zsub_s (zsub_s (zsub_n (zsub_n zsub_0))))))) ?_
        exact jX12_momentOf_J47 C hN ho hz hRm ret v4 x3 t7 0 h p6.1 Rx3 Rt7 (zR_c 0 rfl)
      · refine z_iconst C (zd tX12_momentOf 24 rfl) ?_
        refine z_goto (tgt := 47) C (zd tX12_momentOf 25 rfl) (by decide) ?_
        refine z_sub (lo' := [some (zr 137), none, none, some (zi x3), some (zi t7), none, none]) (zsub_s (zsub_n (zsub_n (zsub_s (zsub_s (zsub_n (zsub_n zsub_0))))))) ?_
        exact jX12_momentOf_J47 C hN ho hz hRm ret v4 x3 t7 1 h p6.1 Rx3 Rt7 (zR_c 1 rfl)
    · refine z_iconst C (zd tX12_momentOf 10 rfl) ?_
      obtain ⟨rfl, rfl⟩ := zpi h
      exact ret.1 _ _ _ _ ⟨p6.1, (zR_c (-1) rfl)⟩ rfl rfl rfl (zd tX12_momentOf 11 rfl)
noncomputable def vsX12_isAsKept : List Cond := .code yX12_isAsKept cX12_isAsKept 5 (some .boolean) :: zbig
abbrev rmX12_isAsKept : Room := { frames := 1, cells := 0, slots := 0, locals := 20 }
theorem pX12_isAsKept : yX12_isAsKept.cls = RX12 ∧ yX12_isAsKept.cls ≠ "java/lang/invoke/MethodHandle" ∧ yX12_isAsKept.cls ≠ "java/lang/invoke/VarHandle" ∧ (parseMethodDescriptor yX12_isAsKept.desc).map (fun d => d.parameters.length) = some 2 := by decide +kernel
set_option maxRecDepth 100000 in
set_option maxHeartbeats 4000000 in
theorem bX12_isAsKept_L10 {E : zE} (C : zC E 24 cX12_isAsKept RX12 vsX12_isAsKept) (hN : zEN E = 5) (ho : zEo E = 137) (hz : zEz E = False) (hRm : zER E = rmX12_isAsKept) : ∀ (fu : Nat) (v : zHp) (x1 : Int) (x2 : Int) (x3 : Int) (x4 : Int) (res : (zHp × (Int))), fX12_isAsKept_L10 fu v x1 x2 x3 x4 = some res → zV 137 24 v → zR x1 → zR x2 → zR x3 → zR x4 → (∀ (w : zHp) (q : Int), res = (w, q) → zV 137 24 w → zR q → zX E 0 0 24 w 62 [none, none, none, some (zi q), none] []) → zX E 0 0 24 v 10 [some (zr 137), some (zi x1), some (zi x2), some (zi x3), some (zi x4)] [] := by
  intro fu
  induction fu with
  | zero =>
    intro v _ _ _ _ res h
    cases h
  | succ fu ih =>
    intro v x1 x2 x3 x4 res h hv Rx1 Rx2 Rx3 Rx4 K1
    rw [fX12_isAsKept_L10.eq_2] at h
    refine z_iload C (zd tX12_isAsKept 7 rfl) rfl ?_
    refine z_sipush C (by decide) (zd tX12_isAsKept 8 rfl) ?_
    refine z_icmp_ge (tgt := 62) C Rx4 (zR_c 690 rfl) (zd tX12_isAsKept 9 rfl) (by decide) h (fun h => ?_) (fun h => ?_)
    · refine z_sub (lo' := [none, none, none, some (zi x3), none]) (zsub_n (zsub_n (zsub_n (zsub_s (zsub_n zsub_0))))) ?_
      exact K1 _ _ (Option.some.inj h).symm hv Rx3
    · refine z_iload_n C (zd tX12_isAsKept 10 rfl) rfl ?_
      refine z_if_eq (tgt := 62) C Rx3 (zd tX12_isAsKept 11 rfl) (by decide) h (fun h => ?_) (fun h => ?_)
      · refine z_sub (lo' := [none, none, none, some (zi x3), none]) (zsub_n (zsub_n (zsub_n (zsub_s (zsub_n zsub_0))))) ?_
        exact K1 _ _ (Option.some.inj h).symm hv Rx3
      · refine z_aload_n C (zd tX12_isAsKept 12 rfl) rfl ?_
        refine gl_12_34 (t := 157) C (lg_137 ho) zic_12 (zm zwd_1024) (vl_12_34 ho hv (lg_137 ho)) (zd tX12_isAsKept 13 rfl) ?_
        refine z_sipush C (by decide) (zd tX12_isAsKept 14 rfl) ?_
        refine z_iload_n C (zd tX12_isAsKept 15 rfl) rfl ?_
        refine z_imul C (zd tX12_isAsKept 16 rfl) ?_
        refine z_iload C (zd tX12_isAsKept 17 rfl) rfl ?_
        refine z_iadd C (zd tX12_isAsKept 18 rfl) ?_
        obtain ⟨q2, h⟩ := zck_some h
        refine za_zald C (lg_157 ho) rfl (by decide) q2 (zd tX12_isAsKept 19 rfl) ?_
        refine z_aload_n C (zd tX12_isAsKept 20 rfl) rfl ?_
        refine gl_12_22 (t := 148) C (lg_137 ho) zic_12 (zm zwd_1012) (vl_12_22 ho hv (lg_137 ho)) (zd tX12_isAsKept 21 rfl) ?_
        refine z_iload_n C (zd tX12_isAsKept 22 rfl) rfl ?_
        obtain ⟨v3, r4, cv3, h⟩ := zcl_some h
        refine zc_S C ho hz hRm (qX12_about _ _ _ _ Rx2 hv cv3) (zgS zwd_1392 zwd_1393 zwd_13 zwd_1394) rfl pX12_about rfl ⟨rfl, rfl⟩ ⟨Nat.le_of_ble_eq_true rfl, Nat.le_of_ble_eq_true rfl⟩ [zr 148, zi (v 157 ((690 * x1) + x4))] rfl (Nat.le_of_ble_eq_true rfl) (zd tX12_isAsKept 23 rfl) [zi r4, zr 148, zi (v 157 ((690 * x1) + x4))] rfl (fun p5 => ?_)
        refine z_iload C (zd tX12_isAsKept 24 rfl) rfl ?_
        refine z_iadd C (zd tX12_isAsKept 25 rfl) ?_
        obtain ⟨q6, h⟩ := zck_some h
        refine za_zald C (lg_148 ho) rfl (by decide) q6 (zd tX12_isAsKept 26 rfl) ?_
        refine z_icmp_ne (tgt := 54) C (hv.1 _ _) (p5.1.1 _ _) (zd tX12_isAsKept 27 rfl) (by decide) h (fun h => ?_) (fun h => ?_)
        · refine z_iconst C (zd tX12_isAsKept 30 rfl) ?_
          refine z_istore_n C (zd tX12_isAsKept 31 rfl) (by rw [hN]; decide) ?_
          obtain ⟨t7, et7, Rt7, h⟩ := zn_some h
          refine z_iincE C (zd tX12_isAsKept 32 rfl) (by rw [hN]; decide) rfl et7 ?_
          refine z_goto (tgt := 10) C (zd tX12_isAsKept 33 rfl) (by decide) ?_
          refine z_sub (lo' := [some (zr 137), some (zi x1), some (zi x2), some (zi 0), some (zi t7)]) (zsub_s (zsub_s (zsub_s (zsub_s (zsub_s zsub_0))))) ?_
          exact ih v3 x1 x2 0 t7 _ h p5.1 Rx1 Rx2 (zR_c 0 rfl) Rt7 K1
        · refine z_iconst C (zd tX12_isAsKept 28 rfl) ?_
          refine z_goto (tgt := 55) C (zd tX12_isAsKept 29 rfl) (by decide) ?_
          refine z_istore_n C (zd tX12_isAsKept 31 rfl) (by rw [hN]; decide) ?_
          obtain ⟨t8, et8, Rt8, h⟩ := zn_some h
          refine z_iincE C (zd tX12_isAsKept 32 rfl) (by rw [hN]; decide) rfl et8 ?_
          refine z_goto (tgt := 10) C (zd tX12_isAsKept 33 rfl) (by decide) ?_
          refine z_sub (lo' := [some (zr 137), some (zi x1), some (zi x2), some (zi 1), some (zi t8)]) (zsub_s (zsub_s (zsub_s (zsub_s (zsub_s zsub_0))))) ?_
          exact ih v3 x1 x2 1 t8 _ h p5.1 Rx1 Rx2 (zR_c 1 rfl) Rt8 K1
set_option maxRecDepth 100000 in
set_option maxHeartbeats 4000000 in
theorem qX12_isAsKept (l : Launch) (D : va_G) (ids : Nat → ClassId) (b : Nat) {x1 : Int} (Rx1 : zR x1) {x2 : Int} (Rx2 : zR x2) {v v' : zHp} {r' : Int} (hv : zV 137 24 v) (h : fX12_isAsKept v x1 x2 = some (v', r')) : zCT l yX12_isAsKept vsX12_isAsKept rmX12_isAsKept D ids b 137 False 24 [zr 137, zi x1, zi x2] v 24 (zV 137 24 v' ∧ zR r') (some (zi r')) v' 0 0 := by
  refine zMet (own := RX12) (by decide +kernel) (show vsX12_isAsKept = _ from rfl) (Nat.le_of_ble_eq_true rfl) rfl ?_
  intro E hl hRm hD hids hb ho hz hN C hname ret
  subst hl hD hids hb
  unfold fX12_isAsKept at h
  refine z_aload_n C (zd tX12_isAsKept 0 rfl) rfl ?_
  refine gl_12_36 (t := 159) C (lg_137 ho) zic_12 (zm zwd_1026) (vl_12_36 ho hv (lg_137 ho)) (zd tX12_isAsKept 1 rfl) ?_
  refine z_iload_n C (zd tX12_isAsKept 2 rfl) rfl ?_
  obtain ⟨q1, h⟩ := zck_some h
  refine za_zald C (lg_159 ho) rfl (by decide) q1 (zd tX12_isAsKept 3 rfl) ?_
  refine z_istore_n C (zd tX12_isAsKept 4 rfl) (by rw [hN]; decide) ?_
  refine z_iconst C (zd tX12_isAsKept 5 rfl) ?_
  refine z_istore C (zd tX12_isAsKept 6 rfl) (by rw [hN]; decide) ?_
  refine z_sub (lo' := [some (zr 137), some (zi x1), some (zi x2), some (zi (v 159 x1)), some (zi 0)]) (zsub_s (zsub_s (zsub_s (zsub_s (zsub_s zsub_0))))) ?_
  obtain ⟨v9, w10, lv9, h⟩ := zl_some h
  refine bX12_isAsKept_L10 C hN ho hz hRm zFU v x1 x2 (v 159 x1) 0 _ lv9 hv Rx1 Rx2 (hv.1 _ _) (zR_c 0 rfl) (fun w1 q1 e1 hv9 Rw10 => ?_)
  obtain ⟨rfl, rfl⟩ := zpp e1
  refine z_iload_n C (zd tX12_isAsKept 34 rfl) rfl ?_
  obtain ⟨q11, h⟩ := zck_some h
  obtain ⟨rfl, rfl⟩ := zpi h
  exact ret.1 _ _ _ _ ⟨hv9, Rw10⟩ rfl rfl (zbool_n q11) (zd tX12_isAsKept 35 rfl)
noncomputable def vsX12_weekSum : List Cond := .code yX12_weekSum cX12_weekSum 4 (some .int) :: zbig
abbrev rmX12_weekSum : Room := { frames := 5, cells := 0, slots := 0, locals := 117 }
theorem pX12_weekSum : yX12_weekSum.cls = RX12 ∧ yX12_weekSum.cls ≠ "java/lang/invoke/MethodHandle" ∧ yX12_weekSum.cls ≠ "java/lang/invoke/VarHandle" ∧ (parseMethodDescriptor yX12_weekSum.desc).map (fun d => d.parameters.length) = some 1 := by decide +kernel
set_option maxRecDepth 100000 in
set_option maxHeartbeats 4000000 in
theorem bX12_weekSum_L2 {E : zE} (C : zC E 24 cX12_weekSum RX12 vsX12_weekSum) (hN : zEN E = 4) (ho : zEo E = 137) (hz : zEz E = False) (hRm : zER E = rmX12_weekSum) : ∀ (fu : Nat) (v : zHp) (x1 : Int) (x2 : Int) (res : ((zHp × Int) ⊕ (zHp × (Int)))), fX12_weekSum_L2 fu v x1 x2 = some res → zV 137 24 v → zR x1 → zR x2 → (∀ (w : zHp) (q : Int), res = .inr (w, q) → zV 137 24 w → True → zX E 0 0 24 w 37 [some (zr 137), some (zi x1), none, none] []) → (∀ (w : zHp) (r : Int), res = .inl (w, r) → zRet E cX12_weekSum 0 0 24 (some .int) (zV 137 24 w ∧ zR r) (some (zi r)) w) → zX E 0 0 24 v 2 [some (zr 137), some (zi x1), some (zi x2), none] [] := by
  intro fu
  induction fu with
  | zero =>
    intro v _ _ res h
    cases h
  | succ fu ih =>
    intro v x1 x2 res h hv Rx1 Rx2 K1 K2
    rw [fX12_weekSum_L2.eq_2] at h
    refine z_iload_n C (zd tX12_weekSum 2 rfl) rfl ?_
    refine z_iconst C (zd tX12_weekSum 3 rfl) ?_
    refine z_icmp_ge (tgt := 37) C Rx2 (zR_c 2 rfl) (zd tX12_weekSum 4 rfl) (by decide) h (fun h => ?_) (fun h => ?_)
    · refine z_sub (lo' := [some (zr 137), some (zi x1), none, none]) (zsub_s (zsub_s (zsub_n (zsub_n zsub_0)))) ?_
      exact K1 _ _ (Option.some.inj h).symm hv trivial
    · refine z_aload_n C (zd tX12_weekSum 5 rfl) rfl ?_
      refine z_iconst C (zd tX12_weekSum 6 rfl) ?_
      refine z_iload_n C (zd tX12_weekSum 7 rfl) rfl ?_
      refine z_imul C (zd tX12_weekSum 8 rfl) ?_
      refine z_iload_n C (zd tX12_weekSum 9 rfl) rfl ?_
      refine z_iadd C (zd tX12_weekSum 10 rfl) ?_
      refine z_iload_n C (zd tX12_weekSum 11 rfl) rfl ?_
      obtain ⟨t1, et1, Rt1, h⟩ := zn_some h
      refine z_nk 1 (congrArg zI et1.symm) rfl ?_
      obtain ⟨v2, r3, cv2, h⟩ := zcl_some h
      refine zc_V C ho hz hRm (qX12_isAsKept _ _ _ _ Rt1 Rx1 hv cv2) (lg_137 ho) (by decide) rfl (zgV zwd_1388 zwd_1390 zws_83 zwd_13 zwd_1391) rfl pX12_isAsKept rfl ⟨rfl, rfl⟩ ⟨Nat.le_of_ble_eq_true rfl, Nat.le_of_ble_eq_true rfl⟩ [] rfl (Nat.le_of_ble_eq_true rfl) (zd tX12_weekSum 12 rfl) [zi r3] rfl (fun p4 => ?_)
      refine z_if_eq (tgt := 31) C p4.2 (zd tX12_weekSum 13 rfl) (by decide) h (fun h => ?_) (fun h => ?_)
      · obtain ⟨t5, et5, Rt5, h⟩ := zn_some h
        refine z_iincE C (zd tX12_weekSum 23 rfl) (by rw [hN]; decide) rfl et5 ?_
        refine z_goto (tgt := 2) C (zd tX12_weekSum 24 rfl) (by decide) ?_
        refine z_sub (lo' := [some (zr 137), some (zi x1), some (zi t5), none]) (zsub_s (zsub_s (zsub_s (zsub_n zsub_0)))) ?_
        exact ih v2 x1 t5 _ h p4.1 Rx1 Rt5 K1 K2
      · refine z_aload_n C (zd tX12_weekSum 14 rfl) rfl ?_
        refine gl_12_35 (t := 158) C (lg_137 ho) zic_12 (zm zwd_1025) (vl_12_35 ho p4.1 (lg_137 ho)) (zd tX12_weekSum 15 rfl) ?_
        refine z_iconst C (zd tX12_weekSum 16 rfl) ?_
        refine z_iload_n C (zd tX12_weekSum 17 rfl) rfl ?_
        refine z_imul C (zd tX12_weekSum 18 rfl) ?_
        refine z_iload_n C (zd tX12_weekSum 19 rfl) rfl ?_
        refine z_iadd C (zd tX12_weekSum 20 rfl) ?_
        obtain ⟨q6, h⟩ := zck_some h
        refine za_iald C (lg_158 ho) rfl (by decide) q6 (zd tX12_weekSum 21 rfl) ?_
        have K2 := K2 _ _ (Option.some.inj h).symm
        exact K2.1 _ _ _ _ ⟨p4.1, (p4.1.1 _ _)⟩ rfl rfl rfl (zd tX12_weekSum 22 rfl)
set_option maxRecDepth 100000 in
set_option maxHeartbeats 4000000 in
theorem bX12_weekSum_L65 {E : zE} (C : zC E 24 cX12_weekSum RX12 vsX12_weekSum) (hN : zEN E = 4) (ho : zEo E = 137) (hz : zEz E = False) (hRm : zER E = rmX12_weekSum) : ∀ (fu : Nat) (v : zHp) (x1 : Int) (x2 : Int) (x3 : Int) (res : (zHp × (Int))), fX12_weekSum_L65 fu v x1 x2 x3 = some res → zV 137 24 v → zR x1 → zR x2 → zR x3 → (∀ (w : zHp) (q : Int), res = (w, q) → zV 137 24 w → True → zX E 0 0 24 w 101 [some (zr 137), none, some (zi x2), none] []) → zX E 0 0 24 v 65 [some (zr 137), some (zi x1), some (zi x2), some (zi x3)] [] := by
  intro fu
  induction fu with
  | zero =>
    intro v _ _ _ res h
    cases h
  | succ fu ih =>
    intro v x1 x2 x3 res h hv Rx1 Rx2 Rx3 K1
    rw [fX12_weekSum_L65.eq_2] at h
    refine z_iload_n C (zd tX12_weekSum 43 rfl) rfl ?_
    refine z_sipush C (by decide) (zd tX12_weekSum 44 rfl) ?_
    refine z_icmp_ge (tgt := 101) C Rx3 (zR_c 690 rfl) (zd tX12_weekSum 45 rfl) (by decide) h (fun h => ?_) (fun h => ?_)
    · refine z_sub (lo' := [some (zr 137), none, some (zi x2), none]) (zsub_s (zsub_n (zsub_s (zsub_n zsub_0)))) ?_
      exact K1 _ _ (Option.some.inj h).symm hv trivial
    · refine z_aload_n C (zd tX12_weekSum 46 rfl) rfl ?_
      refine gl_12_34 (t := 157) C (lg_137 ho) zic_12 (zm zwd_1024) (vl_12_34 ho hv (lg_137 ho)) (zd tX12_weekSum 47 rfl) ?_
      refine z_sipush C (by decide) (zd tX12_weekSum 48 rfl) ?_
      refine z_iload_n C (zd tX12_weekSum 49 rfl) rfl ?_
      refine z_imul C (zd tX12_weekSum 50 rfl) ?_
      refine z_iload_n C (zd tX12_weekSum 51 rfl) rfl ?_
      refine z_iadd C (zd tX12_weekSum 52 rfl) ?_
      refine z_aload_n C (zd tX12_weekSum 53 rfl) rfl ?_
      refine gl_12_22 (t := 148) C (lg_137 ho) zic_12 (zm zwd_1012) (vl_12_22 ho hv (lg_137 ho)) (zd tX12_weekSum 54 rfl) ?_
      refine z_iload_n C (zd tX12_weekSum 55 rfl) rfl ?_
      obtain ⟨v16, r17, cv16, h⟩ := zcl_some h
      refine zc_S C ho hz hRm (qX12_about _ _ _ _ Rx1 hv cv16) (zgS zwd_1392 zwd_1393 zwd_13 zwd_1394) rfl pX12_about rfl ⟨rfl, rfl⟩ ⟨Nat.le_of_ble_eq_true rfl, Nat.le_of_ble_eq_true rfl⟩ [zr 148, zi ((690 * x2) + x3), zr 157] rfl (Nat.le_of_ble_eq_true rfl) (zd tX12_weekSum 56 rfl) [zi r17, zr 148, zi ((690 * x2) + x3), zr 157] rfl (fun p18 => ?_)
      refine z_iload_n C (zd tX12_weekSum 57 rfl) rfl ?_
      refine z_iadd C (zd tX12_weekSum 58 rfl) ?_
      obtain ⟨q19, h⟩ := zck_some h
      refine za_zald C (lg_148 ho) rfl (by decide) q19 (zd tX12_weekSum 59 rfl) ?_
      obtain ⟨q20, h⟩ := zck_some h
      obtain ⟨q21, h⟩ := zck_some h
      obtain ⟨v22, ev22, h⟩ := zb_some h
      have hv22 : zV 137 24 v22 := by rw [ev22]; exact p18.1.st (p18.1.1 _ _) (lg_157 ho).1 (Or.inr rfl)
      refine za_zast C (lg_157 ho) rfl (by decide) q20 q21 ev22 (zd tX12_weekSum 60 rfl) ?_
      obtain ⟨t23, et23, Rt23, h⟩ := zn_some h
      refine z_iincE C (zd tX12_weekSum 61 rfl) (by rw [hN]; decide) rfl et23 ?_
      refine z_goto (tgt := 65) C (zd tX12_weekSum 62 rfl) (by decide) ?_
      refine z_sub (lo' := [some (zr 137), some (zi x1), some (zi x2), some (zi t23)]) (zsub_s (zsub_s (zsub_s (zsub_s zsub_0)))) ?_
      exact ih v22 x1 x2 t23 _ h hv22 Rx1 Rx2 Rt23 K1
set_option maxRecDepth 100000 in
set_option maxHeartbeats 4000000 in
theorem jX12_weekSum_J123 {E : zE} (C : zC E 24 cX12_weekSum RX12 vsX12_weekSum) (hN : zEN E = 4) (ho : zEo E = 137) (hz : zEz E = False) (hRm : zER E = rmX12_weekSum) {v' : zHp} {r' : Int} (ret : zRet E cX12_weekSum 0 0 24 (some .int) (zV 137 24 v' ∧ zR r') (some (zi r')) v') (v : zHp) (x2 : Int) (s1 : Int) (s2 : Int) (h : fX12_weekSum_J123 v x2 s1 s2 = some (v', r')) (hv : zV 137 24 v) (Rx2 : zR x2) (Rs1 : zR s1) (Rs2 : zR s2) : zX E 0 0 24 v 123 [some (zr 137), none, some (zi x2), none] [zi s2, zi s1, zr 158] := by
  unfold fX12_weekSum_J123 at h
  obtain ⟨q27, h⟩ := zck_some h
  obtain ⟨v28, ev28, h⟩ := zb_some h
  have hv28 : zV 137 24 v28 := by rw [ev28]; exact hv.st Rs2 (lg_158 ho).1 (Or.inr rfl)
  refine za_iast C (lg_158 ho) rfl (by decide) q27 ev28 (zd tX12_weekSum 75 rfl) ?_
  refine z_aload_n C (zd tX12_weekSum 76 rfl) rfl ?_
  refine gl_12_36 (t := 159) C (lg_137 ho) zic_12 (zm zwd_1026) (vl_12_36 ho hv28 (lg_137 ho)) (zd tX12_weekSum 77 rfl) ?_
  refine z_iload_n C (zd tX12_weekSum 78 rfl) rfl ?_
  refine z_iconst C (zd tX12_weekSum 79 rfl) ?_
  obtain ⟨q29, h⟩ := zck_some h
  obtain ⟨v30, ev30, h⟩ := zb_some h
  have hv30 : zV 137 24 v30 := by rw [ev30]; exact hv28.st (zR_c 1 rfl) (lg_159 ho).1 (Or.inr rfl)
  refine za_zast C (lg_159 ho) rfl (by decide) q29 (by decide) ev30 (zd tX12_weekSum 80 rfl) ?_
  refine z_aload_n C (zd tX12_weekSum 81 rfl) rfl ?_
  refine gl_12_35 (t := 158) C (lg_137 ho) zic_12 (zm zwd_1025) (vl_12_35 ho hv30 (lg_137 ho)) (zd tX12_weekSum 82 rfl) ?_
  refine z_iload_n C (zd tX12_weekSum 83 rfl) rfl ?_
  obtain ⟨q31, h⟩ := zck_some h
  refine za_iald C (lg_158 ho) rfl (by decide) q31 (zd tX12_weekSum 84 rfl) ?_
  obtain ⟨rfl, rfl⟩ := zpi h
  exact ret.1 _ _ _ _ ⟨hv30, (hv30.1 _ _)⟩ rfl rfl rfl (zd tX12_weekSum 85 rfl)
set_option maxRecDepth 100000 in
set_option maxHeartbeats 4000000 in
theorem jX12_weekSum_J62 {E : zE} (C : zC E 24 cX12_weekSum RX12 vsX12_weekSum) (hN : zEN E = 4) (ho : zEo E = 137) (hz : zEz E = False) (hRm : zER E = rmX12_weekSum) {v' : zHp} {r' : Int} (ret : zRet E cX12_weekSum 0 0 24 (some .int) (zV 137 24 v' ∧ zR r') (some (zi r')) v') (v : zHp) (x1 : Int) (s0 : Int) (h : fX12_weekSum_J62 v x1 s0 = some (v', r')) (hv : zV 137 24 v) (Rx1 : zR x1) (Rs0 : zR s0) : zX E 0 0 24 v 62 [some (zr 137), some (zi x1), none, none] [zi s0] := by
  unfold fX12_weekSum_J62 at h
  refine z_istore_n C (zd tX12_weekSum 40 rfl) (by rw [hN]; decide) ?_
  refine z_iconst C (zd tX12_weekSum 41 rfl) ?_
  refine z_istore_n C (zd tX12_weekSum 42 rfl) (by rw [hN]; decide) ?_
  refine z_sub (lo' := [some (zr 137), some (zi x1), some (zi s0), some (zi 0)]) (zsub_s (zsub_s (zsub_s (zsub_s zsub_0)))) ?_
  obtain ⟨v24, w25, lv24, h⟩ := zl_some h
  refine bX12_weekSum_L65 C hN ho hz hRm zFU v x1 s0 0 _ lv24 hv Rx1 Rs0 (zR_c 0 rfl) (fun w1 q1 e1 hv24 Rw25 => ?_)
  obtain ⟨rfl, rfl⟩ := zpp e1
  refine z_aload_n C (zd tX12_weekSum 63 rfl) rfl ?_
  refine gl_12_35 (t := 158) C (lg_137 ho) zic_12 (zm zwd_1025) (vl_12_35 ho hv24 (lg_137 ho)) (zd tX12_weekSum 64 rfl) ?_
  refine z_iload_n C (zd tX12_weekSum 65 rfl) rfl ?_
  refine z_aload_n C (zd tX12_weekSum 66 rfl) rfl ?_
  refine gf_12_23 C (lg_137 ho) zic_12 (zm zwd_1013) (zd tX12_weekSum 67 rfl) ?_
  refine z_if_ne (tgt := 117) C (hv24.1 _ _) (zd tX12_weekSum 68 rfl) (by decide) h (fun h => ?_) (fun h => ?_)
  · refine z_aload_n C (zd tX12_weekSum 71 rfl) rfl ?_
    refine gl_12_29 (t := 154) C (lg_137 ho) zic_12 (zm zwd_1019) (vl_12_29 ho hv24 (lg_137 ho)) (zd tX12_weekSum 72 rfl) ?_
    refine z_iconst C (zd tX12_weekSum 73 rfl) ?_
    obtain ⟨q26, h⟩ := zck_some h
    refine za_iald C (lg_154 ho) rfl (by decide) q26 (zd tX12_weekSum 74 rfl) ?_
    refine z_sub (lo' := [some (zr 137), none, some (zi s0), none]) (zsub_s (zsub_n (zsub_s (zsub_n zsub_0)))) ?_
    exact jX12_weekSum_J123 C hN ho hz hRm ret v24 s0 s0 (v24 154 0) h hv24 Rs0 Rs0 (hv24.1 _ _)
  · refine z_iconst C (zd tX12_weekSum 69 rfl) ?_
    refine z_goto (tgt := 123) C (zd tX12_weekSum 70 rfl) (by decide) ?_
    refine z_sub (lo' := [some (zr 137), none, some (zi s0), none]) (zsub_s (zsub_n (zsub_s (zsub_n zsub_0)))) ?_
    exact jX12_weekSum_J123 C hN ho hz hRm ret v24 s0 s0 0 h hv24 Rs0 Rs0 (zR_c 0 rfl)
set_option maxRecDepth 100000 in
set_option maxHeartbeats 4000000 in
theorem qX12_weekSum (l : Launch) (D : va_G) (ids : Nat → ClassId) (b : Nat) {x1 : Int} (Rx1 : zR x1) {v v' : zHp} {r' : Int} (hv : zV 137 24 v) (h : fX12_weekSum v x1 = some (v', r')) : zCT l yX12_weekSum vsX12_weekSum rmX12_weekSum D ids b 137 False 24 [zr 137, zi x1] v 24 (zV 137 24 v' ∧ zR r') (some (zi r')) v' 0 0 := by
  refine zMet (own := RX12) (by decide +kernel) (show vsX12_weekSum = _ from rfl) (Nat.le_of_ble_eq_true rfl) rfl ?_
  intro E hl hRm hD hids hb ho hz hN C hname ret
  subst hl hD hids hb
  unfold fX12_weekSum at h
  refine z_iconst C (zd tX12_weekSum 0 rfl) ?_
  refine z_istore_n C (zd tX12_weekSum 1 rfl) (by rw [hN]; decide) ?_
  refine z_sub (lo' := [some (zr 137), some (zi x1), some (zi 0), none]) (zsub_s (zsub_s (zsub_s (zsub_n zsub_0)))) ?_
  rcases zlf_some h with lv7 | ⟨v7, w8, lv7, h⟩
  · exact bX12_weekSum_L2 C hN ho hz hRm zFU v x1 0 _ lv7 hv Rx1 (zR_c 0 rfl) (fun _ _ e => by cases e) (fun _ _ e => by obtain ⟨rfl, rfl⟩ := zpp (Sum.inl.inj e); exact ret)
  · refine bX12_weekSum_L2 C hN ho hz hRm zFU v x1 0 _ lv7 hv Rx1 (zR_c 0 rfl) (fun w1 q1 e1 hv7 Rw8 => ?_) (fun _ _ e => by cases e)
    obtain ⟨rfl, rfl⟩ := zpp (Sum.inr.inj e1)
    refine z_aload_n C (zd tX12_weekSum 25 rfl) rfl ?_
    refine z_iload_n C (zd tX12_weekSum 26 rfl) rfl ?_
    obtain ⟨v9, r10, cv9, h⟩ := zcl_some h
    refine zc_V C ho hz hRm (qX12_laysQuarters _ _ _ _ Rx1 hv7 cv9) (lg_137 ho) (by decide) rfl (zgV zwd_1279 zwd_1281 zws_64 zwd_13 zwd_1282) rfl pX12_laysQuarters rfl ⟨rfl, rfl⟩ ⟨Nat.le_of_ble_eq_true rfl, Nat.le_of_ble_eq_true rfl⟩ [] rfl (Nat.le_of_ble_eq_true rfl) (zd tX12_weekSum 27 rfl) [] rfl (fun p11 => ?_)
    refine z_aload_n C (zd tX12_weekSum 28 rfl) rfl ?_
    obtain ⟨v12, r13, cv12, h⟩ := zcl_some h
    refine zc_V C ho hz hRm (qX12_laysBest _ _ _ _ p11 cv12) (lg_137 ho) (by decide) rfl (zgV zwd_1295 zwd_1297 zws_68 zwd_13 zwd_1298) rfl pX12_laysBest rfl ⟨rfl, rfl⟩ ⟨Nat.le_of_ble_eq_true rfl, Nat.le_of_ble_eq_true rfl⟩ [] rfl (Nat.le_of_ble_eq_true rfl) (zd tX12_weekSum 29 rfl) [] rfl (fun p14 => ?_)
    refine z_aload_n C (zd tX12_weekSum 30 rfl) rfl ?_
    refine gl_12_36 (t := 159) C (lg_137 ho) zic_12 (zm zwd_1026) (vl_12_36 ho p14 (lg_137 ho)) (zd tX12_weekSum 31 rfl) ?_
    refine z_iload_n C (zd tX12_weekSum 32 rfl) rfl ?_
    obtain ⟨q15, h⟩ := zck_some h
    refine za_zald C (lg_159 ho) rfl (by decide) q15 (zd tX12_weekSum 33 rfl) ?_
    refine z_if_eq (tgt := 61) C (p14.1 _ _) (zd tX12_weekSum 34 rfl) (by decide) h (fun h => ?_) (fun h => ?_)
    · refine z_iload_n C (zd tX12_weekSum 39 rfl) rfl ?_
      refine z_sub (lo' := [some (zr 137), some (zi x1), none, none]) (zsub_s (zsub_s (zsub_n (zsub_n zsub_0)))) ?_
      exact jX12_weekSum_J62 C hN ho hz hRm ret v12 x1 x1 h p14 Rx1 Rx1
    · refine z_iconst C (zd tX12_weekSum 35 rfl) ?_
      refine z_iload_n C (zd tX12_weekSum 36 rfl) rfl ?_
      refine z_iadd C (zd tX12_weekSum 37 rfl) ?_
      refine z_goto (tgt := 62) C (zd tX12_weekSum 38 rfl) (by decide) ?_
      obtain ⟨t32, et32, Rt32, h⟩ := zn_some h
      refine z_nk 0 (congrArg zI et32.symm) rfl ?_
      refine z_sub (lo' := [some (zr 137), some (zi x1), none, none]) (zsub_s (zsub_s (zsub_n (zsub_n zsub_0)))) ?_
      exact jX12_weekSum_J62 C hN ho hz hRm ret v12 x1 t32 h p14 Rx1 Rt32
noncomputable def vsX12_payKept : List Cond := .code yX12_payKept cX12_payKept 4 (some .int) :: zbig
abbrev rmX12_payKept : Room := { frames := 6, cells := 0, slots := 0, locals := 140 }
theorem pX12_payKept : yX12_payKept.cls = RX12 ∧ yX12_payKept.cls ≠ "java/lang/invoke/MethodHandle" ∧ yX12_payKept.cls ≠ "java/lang/invoke/VarHandle" ∧ (parseMethodDescriptor yX12_payKept.desc).map (fun d => d.parameters.length) = some 1 := by decide +kernel
set_option maxRecDepth 100000 in
set_option maxHeartbeats 4000000 in
theorem bX12_payKept_L9 {E : zE} (C : zC E 24 cX12_payKept RX12 vsX12_payKept) (hN : zEN E = 4) (ho : zEo E = 137) (hz : zEz E = False) (hRm : zER E = rmX12_payKept) : ∀ (fu : Nat) (v : zHp) (x2 : Int) (x3 : Int) (res : (zHp × (Int))), fX12_payKept_L9 fu v x2 x3 = some res → zV 137 24 v → zR x2 → zR x3 → (∀ (w : zHp) (q : Int), res = (w, q) → zV 137 24 w → zR q → zX E 0 0 24 w 28 [some (zr 137), none, some (zi q), none] []) → zX E 0 0 24 v 9 [some (zr 137), none, some (zi x2), some (zi x3)] [] := by
  intro fu
  induction fu with
  | zero =>
    intro v _ _ res h
    cases h
  | succ fu ih =>
    intro v x2 x3 res h hv Rx2 Rx3 K1
    rw [fX12_payKept_L9.eq_2] at h
    refine z_iload_n C (zd tX12_payKept 7 rfl) rfl ?_
    refine z_iconst C (zd tX12_payKept 8 rfl) ?_
    refine z_icmp_ge (tgt := 28) C Rx3 (zR_c 4 rfl) (zd tX12_payKept 9 rfl) (by decide) h (fun h => ?_) (fun h => ?_)
    · refine z_sub (lo' := [some (zr 137), none, some (zi x2), none]) (zsub_s (zsub_n (zsub_s (zsub_n zsub_0)))) ?_
      exact K1 _ _ (Option.some.inj h).symm hv Rx2
    · refine z_iload_n C (zd tX12_payKept 10 rfl) rfl ?_
      refine z_aload_n C (zd tX12_payKept 11 rfl) rfl ?_
      refine z_iload_n C (zd tX12_payKept 12 rfl) rfl ?_
      obtain ⟨v4, r5, cv4, h⟩ := zcl_some h
      refine zc_V C ho hz hRm (qX12_weekSum _ _ _ _ Rx3 hv cv4) (lg_137 ho) (by decide) rfl (zgV zwd_1384 zwd_1386 zws_82 zwd_13 zwd_1387) rfl pX12_weekSum rfl ⟨rfl, rfl⟩ ⟨Nat.le_of_ble_eq_true rfl, Nat.le_of_ble_eq_true rfl⟩ [zi x2] rfl (Nat.le_of_ble_eq_true rfl) (zd tX12_payKept 13 rfl) [zi r5, zi x2] rfl (fun p6 => ?_)
      refine z_iadd C (zd tX12_payKept 14 rfl) ?_
      obtain ⟨t7, et7, Rt7, h⟩ := zn_some h
      refine z_n0 (congrArg zI et7.symm) ?_
      refine z_istore_n C (zd tX12_payKept 15 rfl) (by rw [hN]; decide) ?_
      obtain ⟨t8, et8, Rt8, h⟩ := zn_some h
      refine z_iincE C (zd tX12_payKept 16 rfl) (by rw [hN]; decide) rfl et8 ?_
      refine z_goto (tgt := 9) C (zd tX12_payKept 17 rfl) (by decide) ?_
      refine z_sub (lo' := [some (zr 137), none, some (zi t7), some (zi t8)]) (zsub_s (zsub_n (zsub_s (zsub_s zsub_0)))) ?_
      exact ih v4 t7 t8 _ h p6.1 Rt7 Rt8 K1
set_option maxRecDepth 100000 in
set_option maxHeartbeats 4000000 in
theorem qX12_payKept (l : Launch) (D : va_G) (ids : Nat → ClassId) (b : Nat) {x1 : Int} (Rx1 : zR x1) {v v' : zHp} {r' : Int} (hv : zV 137 24 v) (h : fX12_payKept v x1 = some (v', r')) : zCT l yX12_payKept vsX12_payKept rmX12_payKept D ids b 137 False 24 [zr 137, zi x1] v 24 (zV 137 24 v' ∧ zR r') (some (zi r')) v' 0 0 := by
  refine zMet (own := RX12) (by decide +kernel) (show vsX12_payKept = _ from rfl) (Nat.le_of_ble_eq_true rfl) rfl ?_
  intro E hl hRm hD hids hb ho hz hN C hname ret
  subst hl hD hids hb
  unfold fX12_payKept at h
  refine z_aload_n C (zd tX12_payKept 0 rfl) rfl ?_
  refine z_iload_n C (zd tX12_payKept 1 rfl) rfl ?_
  obtain ⟨v1, r2, cv1, h⟩ := zcl_some h
  refine zc_V C ho hz hRm (qX12_laysWorked _ _ _ _ Rx1 hv cv1) (lg_137 ho) (by decide) rfl (zgV zwd_1267 zwd_1269 zws_61 zwd_13 zwd_1270) rfl pX12_laysWorked rfl ⟨rfl, rfl⟩ ⟨Nat.le_of_ble_eq_true rfl, Nat.le_of_ble_eq_true rfl⟩ [] rfl (Nat.le_of_ble_eq_true rfl) (zd tX12_payKept 2 rfl) [] rfl (fun p3 => ?_)
  refine z_iconst C (zd tX12_payKept 3 rfl) ?_
  refine z_istore_n C (zd tX12_payKept 4 rfl) (by rw [hN]; decide) ?_
  refine z_iconst C (zd tX12_payKept 5 rfl) ?_
  refine z_istore_n C (zd tX12_payKept 6 rfl) (by rw [hN]; decide) ?_
  refine z_sub (lo' := [some (zr 137), none, some (zi 0), some (zi 0)]) (zsub_s (zsub_n (zsub_s (zsub_s zsub_0)))) ?_
  obtain ⟨v9, w10, lv9, h⟩ := zl_some h
  refine bX12_payKept_L9 C hN ho hz hRm zFU v1 0 0 _ lv9 p3 (zR_c 0 rfl) (zR_c 0 rfl) (fun w1 q1 e1 hv9 Rw10 => ?_)
  obtain ⟨rfl, rfl⟩ := zpp e1
  refine z_aload_n C (zd tX12_payKept 18 rfl) rfl ?_
  refine gl_12_10 (t := 139) C (lg_137 ho) zic_12 (zm zwd_1000) (vl_12_10 ho hv9 (lg_137 ho)) (zd tX12_payKept 19 rfl) ?_
  refine z_iconst C (zd tX12_payKept 20 rfl) ?_
  obtain ⟨q11, h⟩ := zck_some h
  refine za_iald C (lg_139 ho) rfl (by decide) q11 (zd tX12_payKept 21 rfl) ?_
  refine z_iload_n C (zd tX12_payKept 22 rfl) rfl ?_
  refine z_imul C (zd tX12_payKept 23 rfl) ?_
  obtain ⟨t12, et12, Rt12, h⟩ := zn_some h
  refine z_n0 (congrArg zI et12.symm) ?_
  obtain ⟨rfl, rfl⟩ := zpi h
  exact ret.1 _ _ _ _ ⟨hv9, Rt12⟩ rfl rfl rfl (zd tX12_payKept 24 rfl)
noncomputable def vsX12_dearest : List Cond := .code yX12_dearest cX12_dearest 9 (some .int) :: zbig
abbrev rmX12_dearest : Room := { frames := 7, cells := 0, slots := 0, locals := 163 }
theorem pX12_dearest : yX12_dearest.cls = RX12 ∧ yX12_dearest.cls ≠ "java/lang/invoke/MethodHandle" ∧ yX12_dearest.cls ≠ "java/lang/invoke/VarHandle" ∧ (parseMethodDescriptor yX12_dearest.desc).map (fun d => d.parameters.length) = some 3 := by decide +kernel
set_option maxRecDepth 100000 in
set_option maxHeartbeats 4000000 in
theorem bX12_dearest_L43 {E : zE} (C : zC E 24 cX12_dearest RX12 vsX12_dearest) (hN : zEN E = 9) (ho : zEo E = 137) (hz : zEz E = False) (hRm : zER E = rmX12_dearest) : ∀ (fu : Nat) (v : zHp) (x1 : Int) (x2 : Int) (x3 : Int) (x4 : Int) (x5 : Int) (x6 : Int) (res : (zHp × (Int))), fX12_dearest_L43 fu v x1 x2 x3 x4 x5 x6 = some res → zV 137 24 v → zR x1 → zR x2 → zR x3 → zR x4 → zR x5 → zR x6 → (∀ (w : zHp) (q : Int), res = (w, q) → zV 137 24 w → True → zX E 0 0 24 w 64 [some (zr 137), some (zi x1), some (zi x2), some (zi x3), some (zi x4), some (zi x5), none, none, none] []) → zX E 0 0 24 v 43 [some (zr 137), some (zi x1), some (zi x2), some (zi x3), some (zi x4), some (zi x5), some (zi x6), none, none] [] := by
  intro fu
  induction fu with
  | zero =>
    intro v _ _ _ _ _ _ res h
    cases h
  | succ fu ih =>
    intro v x1 x2 x3 x4 x5 x6 res h hv Rx1 Rx2 Rx3 Rx4 Rx5 Rx6 K1
    rw [fX12_dearest_L43.eq_2] at h
    refine z_iload C (zd tX12_dearest 25 rfl) rfl ?_
    refine z_bipush C (by decide) (zd tX12_dearest 26 rfl) ?_
    refine z_icmp_ge (tgt := 64) C Rx6 (zR_c 8 rfl) (zd tX12_dearest 27 rfl) (by decide) h (fun h => ?_) (fun h => ?_)
    · refine z_sub (lo' := [some (zr 137), some (zi x1), some (zi x2), some (zi x3), some (zi x4), some (zi x5), none, none, none]) (zsub_s (zsub_s (zsub_s (zsub_s (zsub_s (zsub_s (zsub_n (zsub_n (zsub_n zsub_0))))))))) ?_
      exact K1 _ _ (Option.some.inj h).symm hv trivial
    · refine z_aload_n C (zd tX12_dearest 28 rfl) rfl ?_
      refine gl_12_36 (t := 159) C (lg_137 ho) zic_12 (zm zwd_1026) (vl_12_36 ho hv (lg_137 ho)) (zd tX12_dearest 29 rfl) ?_
      refine z_iload C (zd tX12_dearest 30 rfl) rfl ?_
      refine z_iconst C (zd tX12_dearest 31 rfl) ?_
      obtain ⟨q11, h⟩ := zck_some h
      obtain ⟨v12, ev12, h⟩ := zb_some h
      have hv12 : zV 137 24 v12 := by rw [ev12]; exact hv.st (zR_c 0 rfl) (lg_159 ho).1 (Or.inr rfl)
      refine za_zast C (lg_159 ho) rfl (by decide) q11 (by decide) ev12 (zd tX12_dearest 32 rfl) ?_
      obtain ⟨t13, et13, Rt13, h⟩ := zn_some h
      refine z_iincE C (zd tX12_dearest 33 rfl) (by rw [hN]; decide) rfl et13 ?_
      refine z_goto (tgt := 43) C (zd tX12_dearest 34 rfl) (by decide) ?_
      refine z_sub (lo' := [some (zr 137), some (zi x1), some (zi x2), some (zi x3), some (zi x4), some (zi x5), some (zi t13), none, none]) (zsub_s (zsub_s (zsub_s (zsub_s (zsub_s (zsub_s (zsub_s (zsub_n (zsub_n zsub_0))))))))) ?_
      exact ih v12 x1 x2 x3 x4 x5 t13 _ h hv12 Rx1 Rx2 Rx3 Rx4 Rx5 Rt13 K1
set_option maxRecDepth 100000 in
set_option maxHeartbeats 4000000 in
theorem jX12_dearest_J132 {E : zE} (C : zC E 24 cX12_dearest RX12 vsX12_dearest) (hN : zEN E = 9) (ho : zEo E = 137) (hz : zEz E = False) (hRm : zER E = rmX12_dearest) (rc : zHp → Int → Int → Int → Int → Int → Int → Option (zHp × (Int))) (res : (zHp × (Int))) (v : zHp) (x1 : Int) (x2 : Int) (x3 : Int) (x5 : Int) (x6 : Int) (x8 : Int) (s0 : Int) (K1 : ∀ (w : zHp) (q : Int), res = (w, q) → zV 137 24 w → zR q → zX E 0 0 24 w 156 [none, none, none, none, some (zi q), none, none, none, none] []) (hrc0 : True) (h : fX12_dearest_J132 rc v x1 x2 x3 x5 x6 x8 s0 = some res) (hv : zV 137 24 v) (Rx1 : zR x1) (Rx2 : zR x2) (Rx3 : zR x3) (Rx5 : zR x5) (Rx6 : zR x6) (Rx8 : zR x8) (Rs0 : zR s0) (hrc : ∀ (v : zHp) (z4 : Int) (z5 : Int) (z6 : Int), rc v x1 x2 x3 z4 z5 z6 = some res → zV 137 24 v → zR z4 → zR z5 → zR z6 → zX E 0 0 24 v 67 [some (zr 137), some (zi x1), some (zi x2), some (zi x3), some (zi z4), some (zi z5), some (zi z6), none, none] []): zX E 0 0 24 v 132 [some (zr 137), some (zi x1), some (zi x2), some (zi x3), none, some (zi x5), some (zi x6), none, some (zi x8)] [zi s0] := by
  unfold fX12_dearest_J132 at h
  refine z_istore C (zd tX12_dearest 71 rfl) (by rw [hN]; decide) ?_
  refine z_iload C (zd tX12_dearest 72 rfl) rfl ?_
  refine z_iload C (zd tX12_dearest 73 rfl) rfl ?_
  refine z_icmp_le (tgt := 146) C Rx8 Rx5 (zd tX12_dearest 74 rfl) (by decide) h (fun h => ?_) (fun h => ?_)
  · refine z_iload C (zd tX12_dearest 77 rfl) rfl ?_
    refine z_istore C (zd tX12_dearest 78 rfl) (by rw [hN]; decide) ?_
    obtain ⟨t32, et32, Rt32, h⟩ := zn_some h
    refine z_iincE C (zd tX12_dearest 79 rfl) (by rw [hN]; decide) rfl et32 ?_
    refine z_goto (tgt := 67) C (zd tX12_dearest 80 rfl) (by decide) ?_
    refine z_sub (lo' := [some (zr 137), some (zi x1), some (zi x2), some (zi x3), some (zi s0), some (zi x5), some (zi t32), none, none]) (zsub_s (zsub_s (zsub_s (zsub_s (zsub_s (zsub_s (zsub_s (zsub_n (zsub_n zsub_0))))))))) ?_
    exact hrc v s0 x5 t32 h hv Rs0 Rx5 Rt32
  · refine z_iload C (zd tX12_dearest 75 rfl) rfl ?_
    refine z_goto (tgt := 148) C (zd tX12_dearest 76 rfl) (by decide) ?_
    refine z_istore C (zd tX12_dearest 78 rfl) (by rw [hN]; decide) ?_
    obtain ⟨t33, et33, Rt33, h⟩ := zn_some h
    refine z_iincE C (zd tX12_dearest 79 rfl) (by rw [hN]; decide) rfl et33 ?_
    refine z_goto (tgt := 67) C (zd tX12_dearest 80 rfl) (by decide) ?_
    refine z_sub (lo' := [some (zr 137), some (zi x1), some (zi x2), some (zi x3), some (zi s0), some (zi x8), some (zi t33), none, none]) (zsub_s (zsub_s (zsub_s (zsub_s (zsub_s (zsub_s (zsub_s (zsub_n (zsub_n zsub_0))))))))) ?_
    exact hrc v s0 x8 t33 h hv Rs0 Rx8 Rt33
set_option maxRecDepth 100000 in
set_option maxHeartbeats 4000000 in
theorem bX12_dearest_L67 {E : zE} (C : zC E 24 cX12_dearest RX12 vsX12_dearest) (hN : zEN E = 9) (ho : zEo E = 137) (hz : zEz E = False) (hRm : zER E = rmX12_dearest) : ∀ (fu : Nat) (v : zHp) (x1 : Int) (x2 : Int) (x3 : Int) (x4 : Int) (x5 : Int) (x6 : Int) (res : (zHp × (Int))), fX12_dearest_L67 fu v x1 x2 x3 x4 x5 x6 = some res → zV 137 24 v → zR x1 → zR x2 → zR x3 → zR x4 → zR x5 → zR x6 → (∀ (w : zHp) (q : Int), res = (w, q) → zV 137 24 w → zR q → zX E 0 0 24 w 156 [none, none, none, none, some (zi q), none, none, none, none] []) → zX E 0 0 24 v 67 [some (zr 137), some (zi x1), some (zi x2), some (zi x3), some (zi x4), some (zi x5), some (zi x6), none, none] [] := by
  intro fu
  induction fu with
  | zero =>
    intro v _ _ _ _ _ _ res h
    cases h
  | succ fu ih =>
    intro v x1 x2 x3 x4 x5 x6 res h hv Rx1 Rx2 Rx3 Rx4 Rx5 Rx6 K1
    rw [fX12_dearest_L67.eq_2] at h
    refine z_iload C (zd tX12_dearest 37 rfl) rfl ?_
    refine z_sipush C (by decide) (zd tX12_dearest 38 rfl) ?_
    refine z_icmp_ge (tgt := 156) C Rx6 (zR_c 1440 rfl) (zd tX12_dearest 39 rfl) (by decide) h (fun h => ?_) (fun h => ?_)
    · refine z_sub (lo' := [none, none, none, none, some (zi x4), none, none, none, none]) (zsub_n (zsub_n (zsub_n (zsub_n (zsub_s (zsub_n (zsub_n (zsub_n (zsub_n zsub_0))))))))) ?_
      exact K1 _ _ (Option.some.inj h).symm hv Rx4
    · refine z_aload_n C (zd tX12_dearest 40 rfl) rfl ?_
      refine z_iload_n C (zd tX12_dearest 41 rfl) rfl ?_
      refine z_iload C (zd tX12_dearest 42 rfl) rfl ?_
      refine z_iconst C (zd tX12_dearest 43 rfl) ?_
      obtain ⟨v16, r17, cv16, h⟩ := zcl_some h
      refine zc_V C ho hz hRm (qX12_momentOf _ _ _ _ Rx3 Rx6 (zR_c 0 rfl) hv cv16) (lg_137 ho) (by decide) rfl (zgV zwd_1185 zwd_1187 zws_48 zwd_13 zwd_1188) rfl pX12_momentOf rfl ⟨rfl, rfl⟩ ⟨Nat.le_of_ble_eq_true rfl, Nat.le_of_ble_eq_true rfl⟩ [] rfl (Nat.le_of_ble_eq_true rfl) (zd tX12_dearest 44 rfl) [zi r17] rfl (fun p18 => ?_)
      refine z_istore C (zd tX12_dearest 45 rfl) (by rw [hN]; decide) ?_
      refine z_aload_n C (zd tX12_dearest 46 rfl) rfl ?_
      refine z_iload_n C (zd tX12_dearest 47 rfl) rfl ?_
      refine z_iload_n C (zd tX12_dearest 48 rfl) rfl ?_
      refine z_iload C (zd tX12_dearest 49 rfl) rfl ?_
      obtain ⟨v19, r20, cv19, h⟩ := zcl_some h
      refine zc_V C ho hz hRm (qX12_canCome _ _ _ _ Rx1 Rx2 p18.2 p18.1 cv19) (lg_137 ho) (by decide) rfl (zgV zwd_1207 zwd_1209 zws_51 zwd_13 zwd_1210) rfl pX12_canCome rfl ⟨rfl, rfl⟩ ⟨Nat.le_of_ble_eq_true rfl, Nat.le_of_ble_eq_true rfl⟩ [] rfl (Nat.le_of_ble_eq_true rfl) (zd tX12_dearest 50 rfl) [zi r20] rfl (fun p21 => ?_)
      refine z_if_eq (tgt := 150) C p21.2 (zd tX12_dearest 51 rfl) (by decide) h (fun h => ?_) (fun h => ?_)
      · obtain ⟨t22, et22, Rt22, h⟩ := zn_some h
        refine z_iincE C (zd tX12_dearest 79 rfl) (by rw [hN]; decide) rfl et22 ?_
        refine z_goto (tgt := 67) C (zd tX12_dearest 80 rfl) (by decide) ?_
        refine z_sub (lo' := [some (zr 137), some (zi x1), some (zi x2), some (zi x3), some (zi x4), some (zi x5), some (zi t22), none, none]) (zsub_s (zsub_s (zsub_s (zsub_s (zsub_s (zsub_s (zsub_s (zsub_n (zsub_n zsub_0))))))))) ?_
        exact ih v19 x1 x2 x3 x4 x5 t22 _ h p21.1 Rx1 Rx2 Rx3 Rx4 Rx5 Rt22 K1
      · refine z_aload_n C (zd tX12_dearest 52 rfl) rfl ?_
        refine z_iload_n C (zd tX12_dearest 53 rfl) rfl ?_
        refine z_iload C (zd tX12_dearest 54 rfl) rfl ?_
        refine z_iload_n C (zd tX12_dearest 55 rfl) rfl ?_
        obtain ⟨v23, r24, cv23, h⟩ := zcl_some h
        refine zc_V C ho hz hRm (qX12_comes _ _ _ _ Rx1 p18.2 Rx2 p21.1 cv23) (lg_137 ho) (by decide) rfl (zgV zwd_1219 zwd_1221 zws_54 zwd_13 zwd_1222) rfl pX12_comes rfl ⟨rfl, rfl⟩ ⟨Nat.le_of_ble_eq_true rfl, Nat.le_of_ble_eq_true rfl⟩ [] rfl (Nat.le_of_ble_eq_true rfl) (zd tX12_dearest 56 rfl) [] rfl (fun p25 => ?_)
        refine z_aload_n C (zd tX12_dearest 57 rfl) rfl ?_
        refine z_iload_n C (zd tX12_dearest 58 rfl) rfl ?_
        obtain ⟨v26, r27, cv26, h⟩ := zcl_some h
        refine zc_V C ho hz hRm (qX12_payKept _ _ _ _ Rx1 p25 cv26) (lg_137 ho) (by decide) rfl (zgV zwd_1380 zwd_1382 zws_81 zwd_13 zwd_1383) rfl pX12_payKept rfl ⟨rfl, rfl⟩ ⟨Nat.le_of_ble_eq_true rfl, Nat.le_of_ble_eq_true rfl⟩ [] rfl (Nat.le_of_ble_eq_true rfl) (zd tX12_dearest 59 rfl) [zi r27] rfl (fun p28 => ?_)
        refine z_istore C (zd tX12_dearest 60 rfl) (by rw [hN]; decide) ?_
        refine z_aload_n C (zd tX12_dearest 61 rfl) rfl ?_
        refine z_iload_n C (zd tX12_dearest 62 rfl) rfl ?_
        refine z_iload C (zd tX12_dearest 63 rfl) rfl ?_
        obtain ⟨v29, r30, cv29, h⟩ := zcl_some h
        refine zc_V C ho hz hRm (qX12_leaves _ _ _ _ Rx1 p18.2 p28.1 cv29) (lg_137 ho) (by decide) rfl (zgV zwd_1231 zwd_1233 zws_56 zwd_13 zwd_1234) rfl pX12_leaves rfl ⟨rfl, rfl⟩ ⟨Nat.le_of_ble_eq_true rfl, Nat.le_of_ble_eq_true rfl⟩ [] rfl (Nat.le_of_ble_eq_true rfl) (zd tX12_dearest 64 rfl) [] rfl (fun p31 => ?_)
        refine z_iload C (zd tX12_dearest 65 rfl) rfl ?_
        refine z_iload C (zd tX12_dearest 66 rfl) rfl ?_
        refine z_icmp_le (tgt := 130) C p28.2 Rx5 (zd tX12_dearest 67 rfl) (by decide) h (fun h => ?_) (fun h => ?_)
        · refine z_iload C (zd tX12_dearest 70 rfl) rfl ?_
          refine z_sub (lo' := [some (zr 137), some (zi x1), some (zi x2), some (zi x3), none, some (zi x5), some (zi x6), none, some (zi r27)]) (zsub_s (zsub_s (zsub_s (zsub_s (zsub_n (zsub_s (zsub_s (zsub_n (zsub_s zsub_0))))))))) ?_
          exact jX12_dearest_J132 C hN ho hz hRm _ _ v29 x1 x2 x3 x5 x6 r27 x4 K1 trivial h p31 Rx1 Rx2 Rx3 Rx5 Rx6 p28.2 Rx4 (fun w z4 z5 z6 hw hvw y4 y5 y6 => ih w x1 x2 x3 z4 z5 z6 _ hw hvw Rx1 Rx2 Rx3 y4 y5 y6 K1)
        · refine z_iload C (zd tX12_dearest 68 rfl) rfl ?_
          refine z_goto (tgt := 132) C (zd tX12_dearest 69 rfl) (by decide) ?_
          refine z_sub (lo' := [some (zr 137), some (zi x1), some (zi x2), some (zi x3), none, some (zi x5), some (zi x6), none, some (zi r27)]) (zsub_s (zsub_s (zsub_s (zsub_s (zsub_n (zsub_s (zsub_s (zsub_n (zsub_s zsub_0))))))))) ?_
          exact jX12_dearest_J132 C hN ho hz hRm _ _ v29 x1 x2 x3 x5 x6 r27 x6 K1 trivial h p31 Rx1 Rx2 Rx3 Rx5 Rx6 p28.2 Rx6 (fun w z4 z5 z6 hw hvw y4 y5 y6 => ih w x1 x2 x3 z4 z5 z6 _ hw hvw Rx1 Rx2 Rx3 y4 y5 y6 K1)
set_option maxRecDepth 100000 in
set_option maxHeartbeats 4000000 in
theorem qX12_dearest (l : Launch) (D : va_G) (ids : Nat → ClassId) (b : Nat) {x1 : Int} (Rx1 : zR x1) {x2 : Int} (Rx2 : zR x2) {x3 : Int} (Rx3 : zR x3) {v v' : zHp} {r' : Int} (hv : zV 137 24 v) (h : fX12_dearest v x1 x2 x3 = some (v', r')) : zCT l yX12_dearest vsX12_dearest rmX12_dearest D ids b 137 False 24 [zr 137, zi x1, zi x2, zi x3] v 24 (zV 137 24 v' ∧ zR r') (some (zi r')) v' 0 0 := by
  refine zMet (own := RX12) (by decide +kernel) (show vsX12_dearest = _ from rfl) (Nat.le_of_ble_eq_true rfl) rfl ?_
  intro E hl hRm hD hids hb ho hz hN C hname ret
  subst hl hD hids hb
  unfold fX12_dearest at h
  refine z_aload_n C (zd tX12_dearest 0 rfl) rfl ?_
  refine z_iconst C (zd tX12_dearest 1 rfl) ?_
  obtain ⟨v1, ev1, h⟩ := zb_some h
  have hv1 : zV 137 24 v1 := by rw [ev1]; exact hv.st (zR_c 0 rfl) (lg_137 ho).1 (Or.inr rfl)
  refine pf_12_0 C (lg_137 ho) zic_12 (zm zwd_990) ev1 (zd tX12_dearest 2 rfl) ?_
  refine z_aload_n C (zd tX12_dearest 3 rfl) rfl ?_
  refine z_iload_n C (zd tX12_dearest 4 rfl) rfl ?_
  obtain ⟨v2, r3, cv2, h⟩ := zcl_some h
  refine zc_V C ho hz hRm (qX12_isWorker _ _ _ _ Rx1 hv1 cv2) (lg_137 ho) (by decide) rfl (zgV zwd_1211 zwd_1213 zws_52 zwd_13 zwd_1214) rfl pX12_isWorker rfl ⟨rfl, rfl⟩ ⟨Nat.le_of_ble_eq_true rfl, Nat.le_of_ble_eq_true rfl⟩ [] rfl (Nat.le_of_ble_eq_true rfl) (zd tX12_dearest 5 rfl) [zi r3] rfl (fun p4 => ?_)
  refine z_if_eq (tgt := 32) C p4.2 (zd tX12_dearest 6 rfl) (by decide) h (fun h => ?_) (fun h => ?_)
  · refine z_iconst C (zd tX12_dearest 17 rfl) ?_
    obtain ⟨rfl, rfl⟩ := zpi h
    exact ret.1 _ _ _ _ ⟨p4.1, (zR_c (-1) rfl)⟩ rfl rfl rfl (zd tX12_dearest 18 rfl)
  · refine z_iload_n C (zd tX12_dearest 7 rfl) rfl ?_
    refine z_iconst C (zd tX12_dearest 8 rfl) ?_
    refine z_iconst C (zd tX12_dearest 9 rfl) ?_
    obtain ⟨v5, r6, cv5, h⟩ := zcl_some h
    refine zc_S C ho hz hRm (qX12_within _ _ _ _ Rx2 (zR_c 0 rfl) (zR_c 2 rfl) p4.1 cv5) (zgS zwd_1109 zwd_1110 zwd_13 zwd_1111) rfl pX12_within rfl ⟨rfl, rfl⟩ ⟨Nat.le_of_ble_eq_true rfl, Nat.le_of_ble_eq_true rfl⟩ [] rfl (Nat.le_of_ble_eq_true rfl) (zd tX12_dearest 10 rfl) [zi r6] rfl (fun p7 => ?_)
    refine z_if_eq (tgt := 32) C p7.2 (zd tX12_dearest 11 rfl) (by decide) h (fun h => ?_) (fun h => ?_)
    · refine z_iconst C (zd tX12_dearest 17 rfl) ?_
      obtain ⟨rfl, rfl⟩ := zpi h
      exact ret.1 _ _ _ _ ⟨p7.1, (zR_c (-1) rfl)⟩ rfl rfl rfl (zd tX12_dearest 18 rfl)
    · refine z_iload_n C (zd tX12_dearest 12 rfl) rfl ?_
      refine z_iconst C (zd tX12_dearest 13 rfl) ?_
      refine z_bipush C (by decide) (zd tX12_dearest 14 rfl) ?_
      obtain ⟨v8, r9, cv8, h⟩ := zcl_some h
      refine zc_S C ho hz hRm (qX12_within _ _ _ _ Rx3 (zR_c 0 rfl) (zR_c 27 rfl) p7.1 cv8) (zgS zwd_1109 zwd_1110 zwd_13 zwd_1111) rfl pX12_within rfl ⟨rfl, rfl⟩ ⟨Nat.le_of_ble_eq_true rfl, Nat.le_of_ble_eq_true rfl⟩ [] rfl (Nat.le_of_ble_eq_true rfl) (zd tX12_dearest 15 rfl) [zi r9] rfl (fun p10 => ?_)
      refine z_if_ne (tgt := 34) C p10.2 (zd tX12_dearest 16 rfl) (by decide) h (fun h => ?_) (fun h => ?_)
      · refine z_iconst C (zd tX12_dearest 19 rfl) ?_
        refine z_istore C (zd tX12_dearest 20 rfl) (by rw [hN]; decide) ?_
        refine z_iconst C (zd tX12_dearest 21 rfl) ?_
        refine z_istore C (zd tX12_dearest 22 rfl) (by rw [hN]; decide) ?_
        refine z_iconst C (zd tX12_dearest 23 rfl) ?_
        refine z_istore C (zd tX12_dearest 24 rfl) (by rw [hN]; decide) ?_
        refine z_sub (lo' := [some (zr 137), some (zi x1), some (zi x2), some (zi x3), some (zi (-1)), some (zi (-1)), some (zi 0), none, none]) (zsub_s (zsub_s (zsub_s (zsub_s (zsub_s (zsub_s (zsub_s (zsub_n (zsub_n zsub_0))))))))) ?_
        obtain ⟨v14, w15, lv14, h⟩ := zl_some h
        refine bX12_dearest_L43 C hN ho hz hRm zFU v8 x1 x2 x3 (-1) (-1) 0 _ lv14 p10.1 Rx1 Rx2 Rx3 (zR_c (-1) rfl) (zR_c (-1) rfl) (zR_c 0 rfl) (fun w1 q1 e1 hv14 Rw15 => ?_)
        obtain ⟨rfl, rfl⟩ := zpp e1
        refine z_iconst C (zd tX12_dearest 35 rfl) ?_
        refine z_istore C (zd tX12_dearest 36 rfl) (by rw [hN]; decide) ?_
        refine z_sub (lo' := [some (zr 137), some (zi x1), some (zi x2), some (zi x3), some (zi (-1)), some (zi (-1)), some (zi 0), none, none]) (zsub_s (zsub_s (zsub_s (zsub_s (zsub_s (zsub_s (zsub_s (zsub_n (zsub_n zsub_0))))))))) ?_
        obtain ⟨v34, w35, lv34, h⟩ := zl_some h
        refine bX12_dearest_L67 C hN ho hz hRm zFU v14 x1 x2 x3 (-1) (-1) 0 _ lv34 hv14 Rx1 Rx2 Rx3 (zR_c (-1) rfl) (zR_c (-1) rfl) (zR_c 0 rfl) (fun w1 q1 e1 hv34 Rw35 => ?_)
        obtain ⟨rfl, rfl⟩ := zpp e1
        refine z_iload C (zd tX12_dearest 81 rfl) rfl ?_
        obtain ⟨rfl, rfl⟩ := zpi h
        exact ret.1 _ _ _ _ ⟨hv34, Rw35⟩ rfl rfl rfl (zd tX12_dearest 82 rfl)
      · refine z_iconst C (zd tX12_dearest 17 rfl) ?_
        obtain ⟨rfl, rfl⟩ := zpi h
        exact ret.1 _ _ _ _ ⟨p10.1, (zR_c (-1) rfl)⟩ rfl rfl rfl (zd tX12_dearest 18 rfl)
noncomputable def vsX12_feastLine : List Cond := .code yX12_feastLine cX12_feastLine 1 (some .boolean) :: zbig
abbrev rmX12_feastLine : Room := { frames := 3, cells := 0, slots := 0, locals := 65 }
theorem pX12_feastLine : yX12_feastLine.cls = RX12 ∧ yX12_feastLine.cls ≠ "java/lang/invoke/MethodHandle" ∧ yX12_feastLine.cls ≠ "java/lang/invoke/VarHandle" ∧ (parseMethodDescriptor yX12_feastLine.desc).map (fun d => d.parameters.length) = some 0 := by decide +kernel
set_option maxRecDepth 100000 in
set_option maxHeartbeats 4000000 in
theorem jX12_feastLine_J66 {E : zE} (C : zC E 24 cX12_feastLine RX12 vsX12_feastLine) (hN : zEN E = 1) (ho : zEo E = 137) (hz : zEz E = False) (hRm : zER E = rmX12_feastLine) {v' : zHp} {r' : Int} (ret : zRet E cX12_feastLine 0 0 24 (some .boolean) (zV 137 24 v' ∧ zR r') (some (zi r')) v') (v : zHp) (h : fX12_feastLine_J66 v = some (v', r')) (hv : zV 137 24 v) : zX E 0 0 24 v 66 [some (zr 137)] [] := by
  unfold fX12_feastLine_J66 at h
  refine z_aload_n C (zd tX12_feastLine 37 rfl) rfl ?_
  refine z_iconst C (zd tX12_feastLine 38 rfl) ?_
  refine z_bipush C (by decide) (zd tX12_feastLine 39 rfl) ?_
  obtain ⟨v5, r6, cv5, h⟩ := zcl_some h
  refine zc_V C ho hz hRm (qX12_number _ _ _ _ (zR_c 0 rfl) (zR_c 27 rfl) hv cv5) (lg_137 ho) (by decide) rfl (zgV zwd_1141 zwd_1143 zws_40 zwd_13 zwd_1144) rfl pX12_number rfl ⟨rfl, rfl⟩ ⟨Nat.le_of_ble_eq_true rfl, Nat.le_of_ble_eq_true rfl⟩ [] rfl (Nat.le_of_ble_eq_true rfl) (zd tX12_feastLine 40 rfl) [zi r6] rfl (fun p7 => ?_)
  refine z_if_ne (tgt := 78) C p7.2 (zd tX12_feastLine 41 rfl) (by decide) h (fun h => ?_) (fun h => ?_)
  · refine z_aload_n C (zd tX12_feastLine 44 rfl) rfl ?_
    refine gl_12_11 (t := 140) C (lg_137 ho) zic_12 (zm zwd_1001) (vl_12_11 ho p7.1 (lg_137 ho)) (zd tX12_feastLine 45 rfl) ?_
    refine z_bipush C (by decide) (zd tX12_feastLine 46 rfl) ?_
    refine z_dup2 C (zd tX12_feastLine 47 rfl) ?_
    obtain ⟨q8, h⟩ := zck_some h
    refine za_iald C (lg_140 ho) rfl (by decide) q8 (zd tX12_feastLine 48 rfl) ?_
    refine z_iconst C (zd tX12_feastLine 49 rfl) ?_
    refine z_aload_n C (zd tX12_feastLine 50 rfl) rfl ?_
    refine gf_12_9 C (lg_137 ho) zic_12 (zm zwd_999) (zd tX12_feastLine 51 rfl) ?_
    refine z_ishl C (zd tX12_feastLine 52 rfl) ?_
    refine z_ior C (zd tX12_feastLine 53 rfl) ?_
    obtain ⟨q9, h⟩ := zck_some h
    obtain ⟨v10, ev10, h⟩ := zb_some h
    have hv10 : zV 137 24 v10 := by rw [ev10]; exact p7.1.st (zR_or _ _) (lg_140 ho).1 (Or.inr rfl)
    refine za_iast C (lg_140 ho) rfl (by decide) q9 ev10 (zd tX12_feastLine 54 rfl) ?_
    refine z_aload_n C (zd tX12_feastLine 55 rfl) rfl ?_
    refine gl_12_11 (t := 140) C (lg_137 ho) zic_12 (zm zwd_1001) (vl_12_11 ho hv10 (lg_137 ho)) (zd tX12_feastLine 56 rfl) ?_
    refine z_bipush C (by decide) (zd tX12_feastLine 57 rfl) ?_
    refine z_dup2 C (zd tX12_feastLine 58 rfl) ?_
    obtain ⟨q11, h⟩ := zck_some h
    refine za_iald C (lg_140 ho) rfl (by decide) q11 (zd tX12_feastLine 59 rfl) ?_
    refine z_iconst C (zd tX12_feastLine 60 rfl) ?_
    refine z_iadd C (zd tX12_feastLine 61 rfl) ?_
    obtain ⟨t12, et12, Rt12, h⟩ := zn_some h
    refine z_n0 (congrArg zI et12.symm) ?_
    obtain ⟨q13, h⟩ := zck_some h
    obtain ⟨v14, ev14, h⟩ := zb_some h
    have hv14 : zV 137 24 v14 := by rw [ev14]; exact hv10.st Rt12 (lg_140 ho).1 (Or.inr rfl)
    refine za_iast C (lg_140 ho) rfl (by decide) q13 ev14 (zd tX12_feastLine 62 rfl) ?_
    refine z_iconst C (zd tX12_feastLine 63 rfl) ?_
    obtain ⟨rfl, rfl⟩ := zpi h
    exact ret.1 _ _ _ _ ⟨hv14, (zR_c 1 rfl)⟩ rfl rfl (by decide) (zd tX12_feastLine 64 rfl)
  · refine z_iconst C (zd tX12_feastLine 42 rfl) ?_
    obtain ⟨rfl, rfl⟩ := zpi h
    exact ret.1 _ _ _ _ ⟨p7.1, (zR_c 0 rfl)⟩ rfl rfl (by decide) (zd tX12_feastLine 43 rfl)
set_option maxRecDepth 100000 in
set_option maxHeartbeats 4000000 in
theorem qX12_feastLine (l : Launch) (D : va_G) (ids : Nat → ClassId) (b : Nat)  {v v' : zHp} {r' : Int} (hv : zV 137 24 v) (h : fX12_feastLine v = some (v', r')) : zCT l yX12_feastLine vsX12_feastLine rmX12_feastLine D ids b 137 False 24 [zr 137] v 24 (zV 137 24 v' ∧ zR r') (some (zi r')) v' 0 0 := by
  refine zMet (own := RX12) (by decide +kernel) (show vsX12_feastLine = _ from rfl) (Nat.le_of_ble_eq_true rfl) rfl ?_
  intro E hl hRm hD hids hb ho hz hN C hname ret
  subst hl hD hids hb
  unfold fX12_feastLine at h
  refine z_aload_n C (zd tX12_feastLine 0 rfl) rfl ?_
  refine gl_12_11 (t := 140) C (lg_137 ho) zic_12 (zm zwd_1001) (vl_12_11 ho hv (lg_137 ho)) (zd tX12_feastLine 1 rfl) ?_
  refine z_bipush C (by decide) (zd tX12_feastLine 2 rfl) ?_
  obtain ⟨q1, h⟩ := zck_some h
  refine za_iald C (lg_140 ho) rfl (by decide) q1 (zd tX12_feastLine 3 rfl) ?_
  refine z_iconst C (zd tX12_feastLine 4 rfl) ?_
  refine z_icmp_ne (tgt := 17) C (hv.1 _ _) (zR_c 4 rfl) (zd tX12_feastLine 5 rfl) (by decide) h (fun h => ?_) (fun h => ?_)
  · refine z_aload_n C (zd tX12_feastLine 10 rfl) rfl ?_
    obtain ⟨v2, r3, cv2, h⟩ := zcl_some h
    refine zc_V C ho hz hRm (qX12_go _ _ _ _ hv cv2) (lg_137 ho) (by decide) rfl (zgV zwd_1112 zwd_1114 zws_33 zwd_13 zwd_1115) rfl pX12_go rfl ⟨rfl, rfl⟩ ⟨Nat.le_of_ble_eq_true rfl, Nat.le_of_ble_eq_true rfl⟩ [] rfl (Nat.le_of_ble_eq_true rfl) (zd tX12_feastLine 11 rfl) [] rfl (fun p4 => ?_)
    refine z_aload_n C (zd tX12_feastLine 12 rfl) rfl ?_
    refine gf_12_6 C (lg_137 ho) zic_12 (zm zwd_996) (zd tX12_feastLine 13 rfl) ?_
    refine z_iconst C (zd tX12_feastLine 14 rfl) ?_
    refine z_icmp_ne (tgt := 66) C (p4.1 _ _) (zR_c 2 rfl) (zd tX12_feastLine 15 rfl) (by decide) h (fun h => ?_) (fun h => ?_)
    · refine z_sub (lo' := [some (zr 137)]) (zsub_s zsub_0) ?_
      exact jX12_feastLine_J66 C hN ho hz hRm ret v2 h p4
    · refine z_aload_n C (zd tX12_feastLine 16 rfl) rfl ?_
      refine gf_12_7 C (lg_137 ho) zic_12 (zm zwd_997) (zd tX12_feastLine 17 rfl) ?_
      refine z_iconst C (zd tX12_feastLine 18 rfl) ?_
      refine z_bipush C (by decide) (zd tX12_feastLine 19 rfl) ?_
      obtain ⟨v15, r16, cv15, h⟩ := zcl_some h
      refine zc_S C ho hz hRm (qX12_within _ _ _ _ (p4.1 _ _) (zR_c 0 rfl) (zR_c 27 rfl) p4 cv15) (zgS zwd_1109 zwd_1110 zwd_13 zwd_1111) rfl pX12_within rfl ⟨rfl, rfl⟩ ⟨Nat.le_of_ble_eq_true rfl, Nat.le_of_ble_eq_true rfl⟩ [] rfl (Nat.le_of_ble_eq_true rfl) (zd tX12_feastLine 20 rfl) [zi r16] rfl (fun p17 => ?_)
      refine z_if_eq (tgt := 66) C p17.2 (zd tX12_feastLine 21 rfl) (by decide) h (fun h => ?_) (fun h => ?_)
      · refine z_sub (lo' := [some (zr 137)]) (zsub_s zsub_0) ?_
        exact jX12_feastLine_J66 C hN ho hz hRm ret v15 h p17.1
      · refine z_aload_n C (zd tX12_feastLine 22 rfl) rfl ?_
        refine gl_12_11 (t := 140) C (lg_137 ho) zic_12 (zm zwd_1001) (vl_12_11 ho p17.1 (lg_137 ho)) (zd tX12_feastLine 23 rfl) ?_
        refine z_bipush C (by decide) (zd tX12_feastLine 24 rfl) ?_
        obtain ⟨q18, h⟩ := zck_some h
        refine za_iald C (lg_140 ho) rfl (by decide) q18 (zd tX12_feastLine 25 rfl) ?_
        refine z_aload_n C (zd tX12_feastLine 26 rfl) rfl ?_
        refine gf_12_7 C (lg_137 ho) zic_12 (zm zwd_997) (zd tX12_feastLine 27 rfl) ?_
        refine z_ishr C (zd tX12_feastLine 28 rfl) ?_
        refine z_iconst C (zd tX12_feastLine 29 rfl) ?_
        refine z_iand C (zd tX12_feastLine 30 rfl) ?_
        refine z_iconst C (zd tX12_feastLine 31 rfl) ?_
        refine z_icmp_ne (tgt := 66) C (zR_and _ _) (zR_c 1 rfl) (zd tX12_feastLine 32 rfl) (by decide) h (fun h => ?_) (fun h => ?_)
        · refine z_sub (lo' := [some (zr 137)]) (zsub_s zsub_0) ?_
          exact jX12_feastLine_J66 C hN ho hz hRm ret v15 h p17.1
        · refine z_aload_n C (zd tX12_feastLine 33 rfl) rfl ?_
          refine z_iconst C (zd tX12_feastLine 34 rfl) ?_
          obtain ⟨v19, r20, cv19, h⟩ := zcl_some h
          refine zc_V C ho hz hRm (qX12_bad _ _ _ _ (zR_c 2 rfl) p17.1 cv19) (lg_137 ho) (by decide) rfl (zgV zwd_1137 zwd_1139 zws_39 zwd_13 zwd_1140) rfl pX12_bad rfl ⟨rfl, rfl⟩ ⟨Nat.le_of_ble_eq_true rfl, Nat.le_of_ble_eq_true rfl⟩ [] rfl (Nat.le_of_ble_eq_true rfl) (zd tX12_feastLine 35 rfl) [zi r20] rfl (fun p21 => ?_)
          obtain ⟨q22, h⟩ := zck_some h
          obtain ⟨rfl, rfl⟩ := zpi h
          exact ret.1 _ _ _ _ ⟨p21.1, p21.2⟩ rfl rfl (zbool_n q22) (zd tX12_feastLine 36 rfl)
  · refine z_aload_n C (zd tX12_feastLine 6 rfl) rfl ?_
    refine z_iconst C (zd tX12_feastLine 7 rfl) ?_
    obtain ⟨v23, r24, cv23, h⟩ := zcl_some h
    refine zc_V C ho hz hRm (qX12_bad _ _ _ _ (zR_c 3 rfl) hv cv23) (lg_137 ho) (by decide) rfl (zgV zwd_1137 zwd_1139 zws_39 zwd_13 zwd_1140) rfl pX12_bad rfl ⟨rfl, rfl⟩ ⟨Nat.le_of_ble_eq_true rfl, Nat.le_of_ble_eq_true rfl⟩ [] rfl (Nat.le_of_ble_eq_true rfl) (zd tX12_feastLine 8 rfl) [zi r24] rfl (fun p25 => ?_)
    obtain ⟨q26, h⟩ := zck_some h
    obtain ⟨rfl, rfl⟩ := zpi h
    exact ret.1 _ _ _ _ ⟨p25.1, p25.2⟩ rfl rfl (zbool_n q26) (zd tX12_feastLine 9 rfl)
noncomputable def vsX12_puts : List Cond := .code yX12_puts cX12_puts 3 none :: zbig
abbrev rmX12_puts : Room := { frames := 0, cells := 0, slots := 0, locals := 0 }
theorem pX12_puts : yX12_puts.cls = RX12 ∧ yX12_puts.cls ≠ "java/lang/invoke/MethodHandle" ∧ yX12_puts.cls ≠ "java/lang/invoke/VarHandle" ∧ (parseMethodDescriptor yX12_puts.desc).map (fun d => d.parameters.length) = some 1 := by decide +kernel
set_option maxRecDepth 100000 in
set_option maxHeartbeats 4000000 in
theorem bX12_puts_L3 {E : zE} (C : zC E 24 cX12_puts RX12 vsX12_puts) (hN : zEN E = 3) (ho : zEo E = 137) (hz : zEz E = False) (hRm : zER E = rmX12_puts) : ∀ (fu : Nat) (v : zHp) (x1 : Int) (x2 : Int) (res : (zHp × (Int))), fX12_puts_L3 fu v x1 x2 = some res → zV 137 24 v → zR x1 → zR x2 → (∀ (w : zHp) (q : Int), res = (w, q) → zV 137 24 w → True → zX E 0 0 24 w 36 [none, none, none] []) → zX E 0 0 24 v 3 [some (zr 137), some (zi x1), some (zi x2)] [] := by
  intro fu
  induction fu with
  | zero =>
    intro v _ _ res h
    cases h
  | succ fu ih =>
    intro v x1 x2 res h hv Rx1 Rx2 K1
    rw [fX12_puts_L3.eq_2] at h
    refine z_iload_n C (zd tX12_puts 2 rfl) rfl ?_
    refine z_if_lt (tgt := 36) C Rx2 (zd tX12_puts 3 rfl) (by decide) h (fun h => ?_) (fun h => ?_)
    · refine z_sub (lo' := [none, none, none]) (zsub_n (zsub_n (zsub_n zsub_0))) ?_
      exact K1 _ _ (Option.some.inj h).symm hv trivial
    · refine z_aload_n C (zd tX12_puts 4 rfl) rfl ?_
      refine gl_12_1 (t := 138) C (lg_137 ho) zic_12 (zm zwd_991) (vl_12_1 ho hv (lg_137 ho)) (zd tX12_puts 5 rfl) ?_
      refine z_aload_n C (zd tX12_puts 6 rfl) rfl ?_
      refine gf_12_2 C (lg_137 ho) zic_12 (zm zwd_992) (zd tX12_puts 7 rfl) ?_
      refine z_iload_n C (zd tX12_puts 8 rfl) rfl ?_
      refine z_iload_n C (zd tX12_puts 9 rfl) rfl ?_
      refine z_ishr C (zd tX12_puts 10 rfl) ?_
      refine z_i2b C (zd tX12_puts 11 rfl) ?_
      obtain ⟨q1, h⟩ := zck_some h
      obtain ⟨v2, ev2, h⟩ := zb_some h
      have hv2 : zV 137 24 v2 := by rw [ev2]; exact hv.st (zR_i2b _) (lg_138 ho).1 (Or.inr rfl)
      refine za_bast C (lg_138 ho) rfl (by decide) q1 (zi2b_ok _) ev2 (zd tX12_puts 12 rfl) ?_
      refine z_aload_n C (zd tX12_puts 13 rfl) rfl ?_
      refine z_dup C (zd tX12_puts 14 rfl) ?_
      refine gf_12_2 C (lg_137 ho) zic_12 (zm zwd_992) (zd tX12_puts 15 rfl) ?_
      refine z_iconst C (zd tX12_puts 16 rfl) ?_
      refine z_iadd C (zd tX12_puts 17 rfl) ?_
      obtain ⟨t3, et3, Rt3, h⟩ := zn_some h
      refine z_n0 (congrArg zI et3.symm) ?_
      obtain ⟨v4, ev4, h⟩ := zb_some h
      have hv4 : zV 137 24 v4 := by rw [ev4]; exact hv2.st Rt3 (lg_137 ho).1 (Or.inr rfl)
      refine pf_12_2 C (lg_137 ho) zic_12 (zm zwd_992) ev4 (zd tX12_puts 18 rfl) ?_
      obtain ⟨t5, et5, Rt5, h⟩ := zn_some h
      refine z_iincE C (zd tX12_puts 19 rfl) (by rw [hN]; decide) rfl et5 ?_
      refine z_goto (tgt := 3) C (zd tX12_puts 20 rfl) (by decide) ?_
      refine z_sub (lo' := [some (zr 137), some (zi x1), some (zi t5)]) (zsub_s (zsub_s (zsub_s zsub_0))) ?_
      exact ih v4 x1 t5 _ h hv4 Rx1 Rt5 K1
set_option maxRecDepth 100000 in
set_option maxHeartbeats 4000000 in
theorem qX12_puts (l : Launch) (D : va_G) (ids : Nat → ClassId) (b : Nat) {x1 : Int} (Rx1 : zR x1) {v v' : zHp} {r' : Int} (hv : zV 137 24 v) (h : fX12_puts v x1 = some (v', r')) : zCT l yX12_puts vsX12_puts rmX12_puts D ids b 137 False 24 [zr 137, zi x1] v 24 (zV 137 24 v') none v' 0 0 := by
  refine zMet (own := RX12) (by decide +kernel) (show vsX12_puts = _ from rfl) (Nat.le_of_ble_eq_true rfl) rfl ?_
  intro E hl hRm hD hids hb ho hz hN C hname ret
  subst hl hD hids hb
  unfold fX12_puts at h
  refine z_bipush C (by decide) (zd tX12_puts 0 rfl) ?_
  refine z_istore_n C (zd tX12_puts 1 rfl) (by rw [hN]; decide) ?_
  refine z_sub (lo' := [some (zr 137), some (zi x1), some (zi 24)]) (zsub_s (zsub_s (zsub_s zsub_0))) ?_
  obtain ⟨v6, w7, lv6, h⟩ := zl_some h
  refine bX12_puts_L3 C hN ho hz hRm zFU v x1 24 _ lv6 hv Rx1 (zR_c 24 rfl) (fun w1 q1 e1 hv6 Rw7 => ?_)
  obtain ⟨rfl, rfl⟩ := zpp e1
  obtain ⟨rfl, rfl⟩ := zpi h
  exact ret.2.1 _ _ hv6 rfl rfl (zd tX12_puts 21 rfl)
noncomputable def vsX12_feed : List Cond := .code yX12_feed cX12_feed 6 (some .int) :: zbig
abbrev rmX12_feed : Room := { frames := 1, cells := 0, slots := 0, locals := 22 }
theorem pX12_feed : yX12_feed.cls = RX12 ∧ yX12_feed.cls ≠ "java/lang/invoke/MethodHandle" ∧ yX12_feed.cls ≠ "java/lang/invoke/VarHandle" ∧ (parseMethodDescriptor yX12_feed.desc).map (fun d => d.parameters.length) = some 5 := by decide +kernel
set_option maxRecDepth 100000 in
set_option maxHeartbeats 4000000 in
theorem qX12_feed (l : Launch) (D : va_G) (ids : Nat → ClassId) (b : Nat) {x1 : Int} (Rx1 : zR x1) {x2 : Int} (Rx2 : zR x2) {x3 : Int} (Rx3 : zR x3) {x4 : Int} (Rx4 : zR x4) {x5 : Int} (Rx5 : zR x5) {v v' : zHp} {r' : Int} (hv : zV 137 24 v) (h : fX12_feed v x1 x2 x3 x4 x5 = some (v', r')) : zCT l yX12_feed vsX12_feed rmX12_feed D ids b 137 False 24 [zr 137, zi x1, zi x2, zi x3, zi x4, zi x5] v 24 (zV 137 24 v' ∧ zR r') (some (zi r')) v' 0 0 := by
  refine zMet (own := RX12) (by decide +kernel) (show vsX12_feed = _ from rfl) (Nat.le_of_ble_eq_true rfl) rfl ?_
  intro E hl hRm hD hids hb ho hz hN C hname ret
  subst hl hD hids hb
  unfold fX12_feed at h
  refine z_aload_n C (zd tX12_feed 0 rfl) rfl ?_
  refine z_iconst C (zd tX12_feed 1 rfl) ?_
  obtain ⟨v1, ev1, h⟩ := zb_some h
  have hv1 : zV 137 24 v1 := by rw [ev1]; exact hv.st (zR_c 0 rfl) (lg_137 ho).1 (Or.inr rfl)
  refine pf_12_0 C (lg_137 ho) zic_12 (zm zwd_990) ev1 (zd tX12_feed 2 rfl) ?_
  refine z_aload_n C (zd tX12_feed 3 rfl) rfl ?_
  refine gf_12_2 C (lg_137 ho) zic_12 (zm zwd_992) (zd tX12_feed 4 rfl) ?_
  refine z_bipush C (by decide) (zd tX12_feed 5 rfl) ?_
  refine z_iadd C (zd tX12_feed 6 rfl) ?_
  refine z_sipush C (by decide) (zd tX12_feed 7 rfl) ?_
  obtain ⟨t2, et2, Rt2, h⟩ := zn_some h
  refine z_n1 (congrArg zI et2.symm) ?_
  refine z_icmp_le (tgt := 20) C Rt2 (zR_c 400 rfl) (zd tX12_feed 8 rfl) (by decide) h (fun h => ?_) (fun h => ?_)
  · refine z_aload_n C (zd tX12_feed 11 rfl) rfl ?_
    refine z_iload_n C (zd tX12_feed 12 rfl) rfl ?_
    obtain ⟨v3, r4, cv3, h⟩ := zcl_some h
    refine zc_V C ho hz hRm (qX12_puts _ _ _ _ Rx1 hv1 cv3) (lg_137 ho) (by decide) rfl (zgV zwd_971 zwd_973 zws_30 zwd_13 zwd_975) rfl pX12_puts rfl ⟨rfl, rfl⟩ ⟨Nat.le_of_ble_eq_true rfl, Nat.le_of_ble_eq_true rfl⟩ [] rfl (Nat.le_of_ble_eq_true rfl) (zd tX12_feed 13 rfl) [] rfl (fun p5 => ?_)
    refine z_aload_n C (zd tX12_feed 14 rfl) rfl ?_
    refine z_iload_n C (zd tX12_feed 15 rfl) rfl ?_
    obtain ⟨v6, r7, cv6, h⟩ := zcl_some h
    refine zc_V C ho hz hRm (qX12_puts _ _ _ _ Rx2 p5 cv6) (lg_137 ho) (by decide) rfl (zgV zwd_971 zwd_973 zws_30 zwd_13 zwd_975) rfl pX12_puts rfl ⟨rfl, rfl⟩ ⟨Nat.le_of_ble_eq_true rfl, Nat.le_of_ble_eq_true rfl⟩ [] rfl (Nat.le_of_ble_eq_true rfl) (zd tX12_feed 16 rfl) [] rfl (fun p8 => ?_)
    refine z_aload_n C (zd tX12_feed 17 rfl) rfl ?_
    refine z_iload_n C (zd tX12_feed 18 rfl) rfl ?_
    obtain ⟨v9, r10, cv9, h⟩ := zcl_some h
    refine zc_V C ho hz hRm (qX12_puts _ _ _ _ Rx3 p8 cv9) (lg_137 ho) (by decide) rfl (zgV zwd_971 zwd_973 zws_30 zwd_13 zwd_975) rfl pX12_puts rfl ⟨rfl, rfl⟩ ⟨Nat.le_of_ble_eq_true rfl, Nat.le_of_ble_eq_true rfl⟩ [] rfl (Nat.le_of_ble_eq_true rfl) (zd tX12_feed 19 rfl) [] rfl (fun p11 => ?_)
    refine z_aload_n C (zd tX12_feed 20 rfl) rfl ?_
    refine z_iload C (zd tX12_feed 21 rfl) rfl ?_
    obtain ⟨v12, r13, cv12, h⟩ := zcl_some h
    refine zc_V C ho hz hRm (qX12_puts _ _ _ _ Rx4 p11 cv12) (lg_137 ho) (by decide) rfl (zgV zwd_971 zwd_973 zws_30 zwd_13 zwd_975) rfl pX12_puts rfl ⟨rfl, rfl⟩ ⟨Nat.le_of_ble_eq_true rfl, Nat.le_of_ble_eq_true rfl⟩ [] rfl (Nat.le_of_ble_eq_true rfl) (zd tX12_feed 22 rfl) [] rfl (fun p14 => ?_)
    refine z_aload_n C (zd tX12_feed 23 rfl) rfl ?_
    refine z_iload C (zd tX12_feed 24 rfl) rfl ?_
    obtain ⟨v15, r16, cv15, h⟩ := zcl_some h
    refine zc_V C ho hz hRm (qX12_puts _ _ _ _ Rx5 p14 cv15) (lg_137 ho) (by decide) rfl (zgV zwd_971 zwd_973 zws_30 zwd_13 zwd_975) rfl pX12_puts rfl ⟨rfl, rfl⟩ ⟨Nat.le_of_ble_eq_true rfl, Nat.le_of_ble_eq_true rfl⟩ [] rfl (Nat.le_of_ble_eq_true rfl) (zd tX12_feed 25 rfl) [] rfl (fun p17 => ?_)
    refine z_aload_n C (zd tX12_feed 26 rfl) rfl ?_
    refine gf_12_2 C (lg_137 ho) zic_12 (zm zwd_992) (zd tX12_feed 27 rfl) ?_
    obtain ⟨rfl, rfl⟩ := zpi h
    exact ret.1 _ _ _ _ ⟨p17, (p17.1 _ _)⟩ rfl rfl rfl (zd tX12_feed 28 rfl)
  · refine z_iconst C (zd tX12_feed 9 rfl) ?_
    obtain ⟨rfl, rfl⟩ := zpi h
    exact ret.1 _ _ _ _ ⟨hv1, (zR_c (-1) rfl)⟩ rfl rfl rfl (zd tX12_feed 10 rfl)
noncomputable def vsX12_takes : List Cond := .code yX12_takes cX12_takes 2 none :: zbig
abbrev rmX12_takes : Room := { frames := 0, cells := 0, slots := 0, locals := 0 }
theorem pX12_takes : yX12_takes.cls = RX12 ∧ yX12_takes.cls ≠ "java/lang/invoke/MethodHandle" ∧ yX12_takes.cls ≠ "java/lang/invoke/VarHandle" ∧ (parseMethodDescriptor yX12_takes.desc).map (fun d => d.parameters.length) = some 0 := by decide +kernel
set_option maxRecDepth 100000 in
set_option maxHeartbeats 4000000 in
theorem bX12_takes_L2 {E : zE} (C : zC E 24 cX12_takes RX12 vsX12_takes) (hN : zEN E = 2) (ho : zEo E = 137) (hz : zEz E = False) (hRm : zER E = rmX12_takes) : ∀ (fu : Nat) (v : zHp) (x1 : Int) (res : (zHp × (Int))), fX12_takes_L2 fu v x1 = some res → zV 137 24 v → zR x1 → (∀ (w : zHp) (q : Int), res = (w, q) → zV 137 24 w → True → zX E 0 0 24 w 26 [none, none] []) → zX E 0 0 24 v 2 [some (zr 137), some (zi x1)] [] := by
  intro fu
  induction fu with
  | zero =>
    intro v _ res h
    cases h
  | succ fu ih =>
    intro v x1 res h hv Rx1 K1
    rw [fX12_takes_L2.eq_2] at h
    refine z_iload_n C (zd tX12_takes 2 rfl) rfl ?_
    refine z_bipush C (by decide) (zd tX12_takes 3 rfl) ?_
    refine z_icmp_ge (tgt := 26) C Rx1 (zR_c 51 rfl) (zd tX12_takes 4 rfl) (by decide) h (fun h => ?_) (fun h => ?_)
    · refine z_sub (lo' := [none, none]) (zsub_n (zsub_n zsub_0)) ?_
      exact K1 _ _ (Option.some.inj h).symm hv trivial
    · refine z_aload_n C (zd tX12_takes 5 rfl) rfl ?_
      refine gl_12_10 (t := 139) C (lg_137 ho) zic_12 (zm zwd_1000) (vl_12_10 ho hv (lg_137 ho)) (zd tX12_takes 6 rfl) ?_
      refine z_iload_n C (zd tX12_takes 7 rfl) rfl ?_
      refine z_aload_n C (zd tX12_takes 8 rfl) rfl ?_
      refine gl_12_11 (t := 140) C (lg_137 ho) zic_12 (zm zwd_1001) (vl_12_11 ho hv (lg_137 ho)) (zd tX12_takes 9 rfl) ?_
      refine z_iload_n C (zd tX12_takes 10 rfl) rfl ?_
      obtain ⟨q1, h⟩ := zck_some h
      refine za_iald C (lg_140 ho) rfl (by decide) q1 (zd tX12_takes 11 rfl) ?_
      obtain ⟨q2, h⟩ := zck_some h
      obtain ⟨v3, ev3, h⟩ := zb_some h
      have hv3 : zV 137 24 v3 := by rw [ev3]; exact hv.st (hv.1 _ _) (lg_139 ho).1 (Or.inr rfl)
      refine za_iast C (lg_139 ho) rfl (by decide) q2 ev3 (zd tX12_takes 12 rfl) ?_
      obtain ⟨t4, et4, Rt4, h⟩ := zn_some h
      refine z_iincE C (zd tX12_takes 13 rfl) (by rw [hN]; decide) rfl et4 ?_
      refine z_goto (tgt := 2) C (zd tX12_takes 14 rfl) (by decide) ?_
      refine z_sub (lo' := [some (zr 137), some (zi t4)]) (zsub_s (zsub_s zsub_0)) ?_
      exact ih v3 t4 _ h hv3 Rt4 K1
set_option maxRecDepth 100000 in
set_option maxHeartbeats 4000000 in
theorem qX12_takes (l : Launch) (D : va_G) (ids : Nat → ClassId) (b : Nat)  {v v' : zHp} {r' : Int} (hv : zV 137 24 v) (h : fX12_takes v = some (v', r')) : zCT l yX12_takes vsX12_takes rmX12_takes D ids b 137 False 24 [zr 137] v 24 (zV 137 24 v') none v' 0 0 := by
  refine zMet (own := RX12) (by decide +kernel) (show vsX12_takes = _ from rfl) (Nat.le_of_ble_eq_true rfl) rfl ?_
  intro E hl hRm hD hids hb ho hz hN C hname ret
  subst hl hD hids hb
  unfold fX12_takes at h
  refine z_iconst C (zd tX12_takes 0 rfl) ?_
  refine z_istore_n C (zd tX12_takes 1 rfl) (by rw [hN]; decide) ?_
  refine z_sub (lo' := [some (zr 137), some (zi 0)]) (zsub_s (zsub_s zsub_0)) ?_
  obtain ⟨v5, w6, lv5, h⟩ := zl_some h
  refine bX12_takes_L2 C hN ho hz hRm zFU v 0 _ lv5 hv (zR_c 0 rfl) (fun w1 q1 e1 hv5 Rw6 => ?_)
  obtain ⟨rfl, rfl⟩ := zpp e1
  obtain ⟨rfl, rfl⟩ := zpi h
  exact ret.2.1 _ _ hv5 rfl rfl (zd tX12_takes 15 rfl)
noncomputable def vsX12_kindOf : List Cond := .code yX12_kindOf cX12_kindOf 1 (some .int) :: zbig
abbrev rmX12_kindOf : Room := { frames := 2, cells := 5, slots := 40, locals := 52 }
theorem pX12_kindOf : yX12_kindOf.cls = RX12 ∧ yX12_kindOf.cls ≠ "java/lang/invoke/MethodHandle" ∧ yX12_kindOf.cls ≠ "java/lang/invoke/VarHandle" ∧ (parseMethodDescriptor yX12_kindOf.desc).map (fun d => d.parameters.length) = some 0 := by decide +kernel
set_option maxRecDepth 100000 in
set_option maxHeartbeats 4000000 in
theorem qX12_kindOf (l : Launch) (D : va_G) (ids : Nat → ClassId) (b : Nat)  {v v' : zHp} {r' : Int} (hv : zV 137 24 v) (h : fX12_kindOf v = some (v', r')) : zCT l yX12_kindOf vsX12_kindOf rmX12_kindOf D ids b 137 False 24 [zr 137] v 24 (zV 137 24 v' ∧ zR r') (some (zi r')) v' 5 40 := by
  refine zMet (own := RX12) (by decide +kernel) (show vsX12_kindOf = _ from rfl) (Nat.le_of_ble_eq_true rfl) rfl ?_
  intro E hl hRm hD hids hb ho hz hN C hname ret
  subst hl hD hids hb
  unfold fX12_kindOf at h
  refine z_aload_n C (zd tX12_kindOf 0 rfl) rfl ?_
  refine z_bipush C (by decide) (zd tX12_kindOf 1 rfl) ?_
  refine z_bipush C (by decide) (zd tX12_kindOf 2 rfl) ?_
  refine z_bipush C (by decide) (zd tX12_kindOf 3 rfl) ?_
  refine z_iconst C (zd tX12_kindOf 4 rfl) ?_
  refine z_iconst C (zd tX12_kindOf 5 rfl) ?_
  refine z_iconst C (zd tX12_kindOf 6 rfl) ?_
  refine z_iconst C (zd tX12_kindOf 7 rfl) ?_
  refine z_iconst C (zd tX12_kindOf 8 rfl) ?_
  obtain ⟨v1, r2, cv1, h⟩ := zcl_some h
  refine zc_VA C ho hz hRm (qX12_isWord _ _ _ _ (zR_c 100 rfl) (zR_c 97 rfl) (zR_c 121 rfl) (zR_c 0 rfl) (zR_c 0 rfl) (zR_c 0 rfl) (zR_c 0 rfl) (zR_c 0 rfl) hv cv1) (lg_137 ho) (by decide) rfl (zgV zwd_1125 zwd_1127 zws_36 zwd_13 zwd_1128) rfl pX12_isWord rfl ⟨rfl, rfl⟩ ⟨Nat.le_of_ble_eq_true rfl, Nat.le_of_ble_eq_true rfl⟩ (k' := 1) (n' := 8) ⟨rfl, rfl⟩ ⟨Nat.le_of_ble_eq_true rfl, Nat.le_of_ble_eq_true rfl⟩ [] rfl (Nat.le_of_ble_eq_true rfl) (zd tX12_kindOf 9 rfl) [zi r2] rfl (fun p3 => ?_)
  refine z_if_eq (tgt := 20) C p3.2 (zd tX12_kindOf 10 rfl) (by decide) h (fun h => ?_) (fun h => ?_)
  · refine z_aload_n C (zd tX12_kindOf 13 rfl) rfl ?_
    refine z_bipush C (by decide) (zd tX12_kindOf 14 rfl) ?_
    refine z_bipush C (by decide) (zd tX12_kindOf 15 rfl) ?_
    refine z_bipush C (by decide) (zd tX12_kindOf 16 rfl) ?_
    refine z_bipush C (by decide) (zd tX12_kindOf 17 rfl) ?_
    refine z_iconst C (zd tX12_kindOf 18 rfl) ?_
    refine z_iconst C (zd tX12_kindOf 19 rfl) ?_
    refine z_iconst C (zd tX12_kindOf 20 rfl) ?_
    refine z_iconst C (zd tX12_kindOf 21 rfl) ?_
    obtain ⟨v4, r5, cv4, h⟩ := zcl_some h
    refine zc_VA C ho hz hRm (qX12_isWord _ _ _ _ (zR_c 119 rfl) (zR_c 101 rfl) (zR_c 101 rfl) (zR_c 107 rfl) (zR_c 0 rfl) (zR_c 0 rfl) (zR_c 0 rfl) (zR_c 0 rfl) p3.1 cv4) (lg_137 ho) (by decide) rfl (zgV zwd_1125 zwd_1127 zws_36 zwd_13 zwd_1128) rfl pX12_isWord rfl ⟨rfl, rfl⟩ ⟨Nat.le_of_ble_eq_true rfl, Nat.le_of_ble_eq_true rfl⟩ (k' := 2) (n' := 16) ⟨rfl, rfl⟩ ⟨Nat.le_of_ble_eq_true rfl, Nat.le_of_ble_eq_true rfl⟩ [] rfl (Nat.le_of_ble_eq_true rfl) (zd tX12_kindOf 22 rfl) [zi r5] rfl (fun p6 => ?_)
    refine z_if_eq (tgt := 41) C p6.2 (zd tX12_kindOf 23 rfl) (by decide) h (fun h => ?_) (fun h => ?_)
    · refine z_aload_n C (zd tX12_kindOf 26 rfl) rfl ?_
      refine z_bipush C (by decide) (zd tX12_kindOf 27 rfl) ?_
      refine z_bipush C (by decide) (zd tX12_kindOf 28 rfl) ?_
      refine z_bipush C (by decide) (zd tX12_kindOf 29 rfl) ?_
      refine z_bipush C (by decide) (zd tX12_kindOf 30 rfl) ?_
      refine z_bipush C (by decide) (zd tX12_kindOf 31 rfl) ?_
      refine z_bipush C (by decide) (zd tX12_kindOf 32 rfl) ?_
      refine z_bipush C (by decide) (zd tX12_kindOf 33 rfl) ?_
      refine z_iconst C (zd tX12_kindOf 34 rfl) ?_
      obtain ⟨v7, r8, cv7, h⟩ := zcl_some h
      refine zc_VA C ho hz hRm (qX12_isWord _ _ _ _ (zR_c 115 rfl) (zR_c 101 rfl) (zR_c 118 rfl) (zR_c 101 rfl) (zR_c 110 rfl) (zR_c 116 rfl) (zR_c 104 rfl) (zR_c 0 rfl) p6.1 cv7) (lg_137 ho) (by decide) rfl (zgV zwd_1125 zwd_1127 zws_36 zwd_13 zwd_1128) rfl pX12_isWord rfl ⟨rfl, rfl⟩ ⟨Nat.le_of_ble_eq_true rfl, Nat.le_of_ble_eq_true rfl⟩ (k' := 3) (n' := 24) ⟨rfl, rfl⟩ ⟨Nat.le_of_ble_eq_true rfl, Nat.le_of_ble_eq_true rfl⟩ [] rfl (Nat.le_of_ble_eq_true rfl) (zd tX12_kindOf 35 rfl) [zi r8] rfl (fun p9 => ?_)
      refine z_if_eq (tgt := 65) C p9.2 (zd tX12_kindOf 36 rfl) (by decide) h (fun h => ?_) (fun h => ?_)
      · refine z_aload_n C (zd tX12_kindOf 39 rfl) rfl ?_
        refine z_bipush C (by decide) (zd tX12_kindOf 40 rfl) ?_
        refine z_bipush C (by decide) (zd tX12_kindOf 41 rfl) ?_
        refine z_bipush C (by decide) (zd tX12_kindOf 42 rfl) ?_
        refine z_bipush C (by decide) (zd tX12_kindOf 43 rfl) ?_
        refine z_bipush C (by decide) (zd tX12_kindOf 44 rfl) ?_
        refine z_iconst C (zd tX12_kindOf 45 rfl) ?_
        refine z_iconst C (zd tX12_kindOf 46 rfl) ?_
        refine z_iconst C (zd tX12_kindOf 47 rfl) ?_
        obtain ⟨v10, r11, cv10, h⟩ := zcl_some h
        refine zc_VA C ho hz hRm (qX12_isWord _ _ _ _ (zR_c 110 rfl) (zR_c 105 rfl) (zR_c 103 rfl) (zR_c 104 rfl) (zR_c 116 rfl) (zR_c 0 rfl) (zR_c 0 rfl) (zR_c 0 rfl) p9.1 cv10) (lg_137 ho) (by decide) rfl (zgV zwd_1125 zwd_1127 zws_36 zwd_13 zwd_1128) rfl pX12_isWord rfl ⟨rfl, rfl⟩ ⟨Nat.le_of_ble_eq_true rfl, Nat.le_of_ble_eq_true rfl⟩ (k' := 4) (n' := 32) ⟨rfl, rfl⟩ ⟨Nat.le_of_ble_eq_true rfl, Nat.le_of_ble_eq_true rfl⟩ [] rfl (Nat.le_of_ble_eq_true rfl) (zd tX12_kindOf 48 rfl) [zi r11] rfl (fun p12 => ?_)
        refine z_if_eq (tgt := 87) C p12.2 (zd tX12_kindOf 49 rfl) (by decide) h (fun h => ?_) (fun h => ?_)
        · refine z_aload_n C (zd tX12_kindOf 52 rfl) rfl ?_
          refine z_bipush C (by decide) (zd tX12_kindOf 53 rfl) ?_
          refine z_bipush C (by decide) (zd tX12_kindOf 54 rfl) ?_
          refine z_bipush C (by decide) (zd tX12_kindOf 55 rfl) ?_
          refine z_bipush C (by decide) (zd tX12_kindOf 56 rfl) ?_
          refine z_bipush C (by decide) (zd tX12_kindOf 57 rfl) ?_
          refine z_bipush C (by decide) (zd tX12_kindOf 58 rfl) ?_
          refine z_bipush C (by decide) (zd tX12_kindOf 59 rfl) ?_
          refine z_iconst C (zd tX12_kindOf 60 rfl) ?_
          obtain ⟨v13, r14, cv13, h⟩ := zcl_some h
          refine zc_VA C ho hz hRm (qX12_isWord _ _ _ _ (zR_c 104 rfl) (zR_c 111 rfl) (zR_c 108 rfl) (zR_c 105 rfl) (zR_c 100 rfl) (zR_c 97 rfl) (zR_c 121 rfl) (zR_c 0 rfl) p12.1 cv13) (lg_137 ho) (by decide) rfl (zgV zwd_1125 zwd_1127 zws_36 zwd_13 zwd_1128) rfl pX12_isWord rfl ⟨rfl, rfl⟩ ⟨Nat.le_of_ble_eq_true rfl, Nat.le_of_ble_eq_true rfl⟩ (k' := 5) (n' := 40) ⟨rfl, rfl⟩ ⟨Nat.le_of_ble_eq_true rfl, Nat.le_of_ble_eq_true rfl⟩ [] rfl (Nat.le_of_ble_eq_true rfl) (zd tX12_kindOf 61 rfl) [zi r14] rfl (fun p15 => ?_)
          refine z_if_eq (tgt := 113) C p15.2 (zd tX12_kindOf 62 rfl) (by decide) h (fun h => ?_) (fun h => ?_)
          · refine z_iconst C (zd tX12_kindOf 65 rfl) ?_
            obtain ⟨rfl, rfl⟩ := zpi h
            exact ret.1 _ _ _ _ ⟨p15.1, (zR_c (-1) rfl)⟩ rfl rfl rfl (zd tX12_kindOf 66 rfl)
          · refine z_iconst C (zd tX12_kindOf 63 rfl) ?_
            refine z_goto (tgt := 114) C (zd tX12_kindOf 64 rfl) (by decide) ?_
            obtain ⟨rfl, rfl⟩ := zpi h
            exact ret.1 _ _ _ _ ⟨p15.1, (zR_c 4 rfl)⟩ rfl rfl rfl (zd tX12_kindOf 66 rfl)
        · refine z_iconst C (zd tX12_kindOf 50 rfl) ?_
          refine z_widen (k' := 5) (n' := 40) (by decide) (by decide) ?_
          obtain ⟨rfl, rfl⟩ := zpi h
          exact ret.1 _ _ _ _ ⟨p12.1, (zR_c 3 rfl)⟩ rfl rfl rfl (zd tX12_kindOf 51 rfl)
      · refine z_iconst C (zd tX12_kindOf 37 rfl) ?_
        refine z_widen (k' := 5) (n' := 40) (by decide) (by decide) ?_
        obtain ⟨rfl, rfl⟩ := zpi h
        exact ret.1 _ _ _ _ ⟨p9.1, (zR_c 2 rfl)⟩ rfl rfl rfl (zd tX12_kindOf 38 rfl)
    · refine z_iconst C (zd tX12_kindOf 24 rfl) ?_
      refine z_widen (k' := 5) (n' := 40) (by decide) (by decide) ?_
      obtain ⟨rfl, rfl⟩ := zpi h
      exact ret.1 _ _ _ _ ⟨p6.1, (zR_c 1 rfl)⟩ rfl rfl rfl (zd tX12_kindOf 25 rfl)
  · refine z_iconst C (zd tX12_kindOf 11 rfl) ?_
    refine z_widen (k' := 5) (n' := 40) (by decide) (by decide) ?_
    obtain ⟨rfl, rfl⟩ := zpi h
    exact ret.1 _ _ _ _ ⟨p3.1, (zR_c 0 rfl)⟩ rfl rfl rfl (zd tX12_kindOf 12 rfl)
noncomputable def vsX12_mealLine : List Cond := .code yX12_mealLine cX12_mealLine 1 (some .boolean) :: zbig
abbrev rmX12_mealLine : Room := { frames := 3, cells := 0, slots := 0, locals := 65 }
theorem pX12_mealLine : yX12_mealLine.cls = RX12 ∧ yX12_mealLine.cls ≠ "java/lang/invoke/MethodHandle" ∧ yX12_mealLine.cls ≠ "java/lang/invoke/VarHandle" ∧ (parseMethodDescriptor yX12_mealLine.desc).map (fun d => d.parameters.length) = some 0 := by decide +kernel
set_option maxRecDepth 100000 in
set_option maxHeartbeats 4000000 in
theorem qX12_mealLine (l : Launch) (D : va_G) (ids : Nat → ClassId) (b : Nat)  {v v' : zHp} {r' : Int} (hv : zV 137 24 v) (h : fX12_mealLine v = some (v', r')) : zCT l yX12_mealLine vsX12_mealLine rmX12_mealLine D ids b 137 False 24 [zr 137] v 24 (zV 137 24 v' ∧ zR r') (some (zi r')) v' 0 0 := by
  refine zMet (own := RX12) (by decide +kernel) (show vsX12_mealLine = _ from rfl) (Nat.le_of_ble_eq_true rfl) rfl ?_
  intro E hl hRm hD hids hb ho hz hN C hname ret
  subst hl hD hids hb
  unfold fX12_mealLine at h
  refine z_aload_n C (zd tX12_mealLine 0 rfl) rfl ?_
  refine z_iconst C (zd tX12_mealLine 1 rfl) ?_
  obtain ⟨v1, r2, cv1, h⟩ := zcl_some h
  refine zc_V C ho hz hRm (qX12_once _ _ _ _ (zR_c 2 rfl) hv cv1) (lg_137 ho) (by decide) rfl (zgV zwd_1133 zwd_1135 zws_38 zwd_13 zwd_1136) rfl pX12_once rfl ⟨rfl, rfl⟩ ⟨Nat.le_of_ble_eq_true rfl, Nat.le_of_ble_eq_true rfl⟩ [] rfl (Nat.le_of_ble_eq_true rfl) (zd tX12_mealLine 2 rfl) [zi r2] rfl (fun p3 => ?_)
  refine z_if_eq (tgt := 18) C p3.2 (zd tX12_mealLine 3 rfl) (by decide) h (fun h => ?_) (fun h => ?_)
  · refine z_iconst C (zd tX12_mealLine 9 rfl) ?_
    obtain ⟨rfl, rfl⟩ := zpi h
    exact ret.1 _ _ _ _ ⟨p3.1, (zR_c 0 rfl)⟩ rfl rfl (by decide) (zd tX12_mealLine 10 rfl)
  · refine z_aload_n C (zd tX12_mealLine 4 rfl) rfl ?_
    refine z_iconst C (zd tX12_mealLine 5 rfl) ?_
    refine z_bipush C (by decide) (zd tX12_mealLine 6 rfl) ?_
    obtain ⟨v4, r5, cv4, h⟩ := zcl_some h
    refine zc_V C ho hz hRm (qX12_number _ _ _ _ (zR_c 1 rfl) (zR_c 96 rfl) p3.1 cv4) (lg_137 ho) (by decide) rfl (zgV zwd_1141 zwd_1143 zws_40 zwd_13 zwd_1144) rfl pX12_number rfl ⟨rfl, rfl⟩ ⟨Nat.le_of_ble_eq_true rfl, Nat.le_of_ble_eq_true rfl⟩ [] rfl (Nat.le_of_ble_eq_true rfl) (zd tX12_mealLine 7 rfl) [zi r5] rfl (fun p6 => ?_)
    refine z_if_ne (tgt := 20) C p6.2 (zd tX12_mealLine 8 rfl) (by decide) h (fun h => ?_) (fun h => ?_)
    · refine z_aload_n C (zd tX12_mealLine 11 rfl) rfl ?_
      refine gl_12_11 (t := 140) C (lg_137 ho) zic_12 (zm zwd_1001) (vl_12_11 ho p6.1 (lg_137 ho)) (zd tX12_mealLine 12 rfl) ?_
      refine z_iconst C (zd tX12_mealLine 13 rfl) ?_
      refine z_aload_n C (zd tX12_mealLine 14 rfl) rfl ?_
      refine gf_12_9 C (lg_137 ho) zic_12 (zm zwd_999) (zd tX12_mealLine 15 rfl) ?_
      obtain ⟨q7, h⟩ := zck_some h
      obtain ⟨v8, ev8, h⟩ := zb_some h
      have hv8 : zV 137 24 v8 := by rw [ev8]; exact p6.1.st (p6.1.1 _ _) (lg_140 ho).1 (Or.inr rfl)
      refine za_iast C (lg_140 ho) rfl (by decide) q7 ev8 (zd tX12_mealLine 16 rfl) ?_
      refine z_aload_n C (zd tX12_mealLine 17 rfl) rfl ?_
      refine z_iconst C (zd tX12_mealLine 18 rfl) ?_
      refine z_bipush C (by decide) (zd tX12_mealLine 19 rfl) ?_
      obtain ⟨v9, r10, cv9, h⟩ := zcl_some h
      refine zc_V C ho hz hRm (qX12_number _ _ _ _ (zR_c 1 rfl) (zR_c 16 rfl) hv8 cv9) (lg_137 ho) (by decide) rfl (zgV zwd_1141 zwd_1143 zws_40 zwd_13 zwd_1144) rfl pX12_number rfl ⟨rfl, rfl⟩ ⟨Nat.le_of_ble_eq_true rfl, Nat.le_of_ble_eq_true rfl⟩ [] rfl (Nat.le_of_ble_eq_true rfl) (zd tX12_mealLine 20 rfl) [zi r10] rfl (fun p11 => ?_)
      refine z_if_ne (tgt := 42) C p11.2 (zd tX12_mealLine 21 rfl) (by decide) h (fun h => ?_) (fun h => ?_)
      · refine z_aload_n C (zd tX12_mealLine 24 rfl) rfl ?_
        refine gl_12_11 (t := 140) C (lg_137 ho) zic_12 (zm zwd_1001) (vl_12_11 ho p11.1 (lg_137 ho)) (zd tX12_mealLine 25 rfl) ?_
        refine z_iconst C (zd tX12_mealLine 26 rfl) ?_
        refine z_aload_n C (zd tX12_mealLine 27 rfl) rfl ?_
        refine gf_12_9 C (lg_137 ho) zic_12 (zm zwd_999) (zd tX12_mealLine 28 rfl) ?_
        obtain ⟨q12, h⟩ := zck_some h
        obtain ⟨v13, ev13, h⟩ := zb_some h
        have hv13 : zV 137 24 v13 := by rw [ev13]; exact p11.1.st (p11.1.1 _ _) (lg_140 ho).1 (Or.inr rfl)
        refine za_iast C (lg_140 ho) rfl (by decide) q12 ev13 (zd tX12_mealLine 29 rfl) ?_
        refine z_iconst C (zd tX12_mealLine 30 rfl) ?_
        obtain ⟨rfl, rfl⟩ := zpi h
        exact ret.1 _ _ _ _ ⟨hv13, (zR_c 1 rfl)⟩ rfl rfl (by decide) (zd tX12_mealLine 31 rfl)
      · refine z_iconst C (zd tX12_mealLine 22 rfl) ?_
        obtain ⟨rfl, rfl⟩ := zpi h
        exact ret.1 _ _ _ _ ⟨p11.1, (zR_c 0 rfl)⟩ rfl rfl (by decide) (zd tX12_mealLine 23 rfl)
    · refine z_iconst C (zd tX12_mealLine 9 rfl) ?_
      obtain ⟨rfl, rfl⟩ := zpi h
      exact ret.1 _ _ _ _ ⟨p6.1, (zR_c 0 rfl)⟩ rfl rfl (by decide) (zd tX12_mealLine 10 rfl)
noncomputable def vsX12_oneLine : List Cond := .code yX12_oneLine cX12_oneLine 5 (some .boolean) :: zbig
abbrev rmX12_oneLine : Room := { frames := 3, cells := 0, slots := 0, locals := 65 }
theorem pX12_oneLine : yX12_oneLine.cls = RX12 ∧ yX12_oneLine.cls ≠ "java/lang/invoke/MethodHandle" ∧ yX12_oneLine.cls ≠ "java/lang/invoke/VarHandle" ∧ (parseMethodDescriptor yX12_oneLine.desc).map (fun d => d.parameters.length) = some 4 := by decide +kernel
set_option maxRecDepth 100000 in
set_option maxHeartbeats 4000000 in
theorem qX12_oneLine (l : Launch) (D : va_G) (ids : Nat → ClassId) (b : Nat) {x1 : Int} (Rx1 : zR x1) {x2 : Int} (Rx2 : zR x2) {x3 : Int} (Rx3 : zR x3) {x4 : Int} (Rx4 : zR x4) {v v' : zHp} {r' : Int} (hv : zV 137 24 v) (h : fX12_oneLine v x1 x2 x3 x4 = some (v', r')) : zCT l yX12_oneLine vsX12_oneLine rmX12_oneLine D ids b 137 False 24 [zr 137, zi x1, zi x2, zi x3, zi x4] v 24 (zV 137 24 v' ∧ zR r') (some (zi r')) v' 0 0 := by
  refine zMet (own := RX12) (by decide +kernel) (show vsX12_oneLine = _ from rfl) (Nat.le_of_ble_eq_true rfl) rfl ?_
  intro E hl hRm hD hids hb ho hz hN C hname ret
  subst hl hD hids hb
  unfold fX12_oneLine at h
  refine z_aload_n C (zd tX12_oneLine 0 rfl) rfl ?_
  refine z_iload_n C (zd tX12_oneLine 1 rfl) rfl ?_
  obtain ⟨v1, r2, cv1, h⟩ := zcl_some h
  refine zc_V C ho hz hRm (qX12_once _ _ _ _ Rx1 hv cv1) (lg_137 ho) (by decide) rfl (zgV zwd_1133 zwd_1135 zws_38 zwd_13 zwd_1136) rfl pX12_once rfl ⟨rfl, rfl⟩ ⟨Nat.le_of_ble_eq_true rfl, Nat.le_of_ble_eq_true rfl⟩ [] rfl (Nat.le_of_ble_eq_true rfl) (zd tX12_oneLine 2 rfl) [zi r2] rfl (fun p3 => ?_)
  refine z_if_eq (tgt := 18) C p3.2 (zd tX12_oneLine 3 rfl) (by decide) h (fun h => ?_) (fun h => ?_)
  · refine z_iconst C (zd tX12_oneLine 9 rfl) ?_
    obtain ⟨rfl, rfl⟩ := zpi h
    exact ret.1 _ _ _ _ ⟨p3.1, (zR_c 0 rfl)⟩ rfl rfl (by decide) (zd tX12_oneLine 10 rfl)
  · refine z_aload_n C (zd tX12_oneLine 4 rfl) rfl ?_
    refine z_iload_n C (zd tX12_oneLine 5 rfl) rfl ?_
    refine z_iload C (zd tX12_oneLine 6 rfl) rfl ?_
    obtain ⟨v4, r5, cv4, h⟩ := zcl_some h
    refine zc_V C ho hz hRm (qX12_number _ _ _ _ Rx3 Rx4 p3.1 cv4) (lg_137 ho) (by decide) rfl (zgV zwd_1141 zwd_1143 zws_40 zwd_13 zwd_1144) rfl pX12_number rfl ⟨rfl, rfl⟩ ⟨Nat.le_of_ble_eq_true rfl, Nat.le_of_ble_eq_true rfl⟩ [] rfl (Nat.le_of_ble_eq_true rfl) (zd tX12_oneLine 7 rfl) [zi r5] rfl (fun p6 => ?_)
    refine z_if_ne (tgt := 20) C p6.2 (zd tX12_oneLine 8 rfl) (by decide) h (fun h => ?_) (fun h => ?_)
    · refine z_aload_n C (zd tX12_oneLine 11 rfl) rfl ?_
      refine gl_12_11 (t := 140) C (lg_137 ho) zic_12 (zm zwd_1001) (vl_12_11 ho p6.1 (lg_137 ho)) (zd tX12_oneLine 12 rfl) ?_
      refine z_iload_n C (zd tX12_oneLine 13 rfl) rfl ?_
      refine z_aload_n C (zd tX12_oneLine 14 rfl) rfl ?_
      refine gf_12_9 C (lg_137 ho) zic_12 (zm zwd_999) (zd tX12_oneLine 15 rfl) ?_
      obtain ⟨q7, h⟩ := zck_some h
      obtain ⟨v8, ev8, h⟩ := zb_some h
      have hv8 : zV 137 24 v8 := by rw [ev8]; exact p6.1.st (p6.1.1 _ _) (lg_140 ho).1 (Or.inr rfl)
      refine za_iast C (lg_140 ho) rfl (by decide) q7 ev8 (zd tX12_oneLine 16 rfl) ?_
      refine z_iconst C (zd tX12_oneLine 17 rfl) ?_
      obtain ⟨rfl, rfl⟩ := zpi h
      exact ret.1 _ _ _ _ ⟨hv8, (zR_c 1 rfl)⟩ rfl rfl (by decide) (zd tX12_oneLine 18 rfl)
    · refine z_iconst C (zd tX12_oneLine 9 rfl) ?_
      obtain ⟨rfl, rfl⟩ := zpi h
      exact ret.1 _ _ _ _ ⟨p6.1, (zR_c 0 rfl)⟩ rfl rfl (by decide) (zd tX12_oneLine 10 rfl)
