noncomputable def vsX0_firstBest : List Cond := .code yX0_firstBest cX0_firstBest 10 (some .int) :: zbig
abbrev rmX0_firstBest : Room := { frames := 1, cells := 0, slots := 0, locals := 21 }
theorem pX0_firstBest : yX0_firstBest.cls = RX0 ∧ yX0_firstBest.cls ≠ "java/lang/invoke/MethodHandle" ∧ yX0_firstBest.cls ≠ "java/lang/invoke/VarHandle" ∧ (parseMethodDescriptor yX0_firstBest.desc).map (fun d => d.parameters.length) = some 4 := by decide +kernel
set_option maxRecDepth 100000 in
set_option maxHeartbeats 4000000 in
theorem jX0_firstBest_J140 {E : zE} (C : zC E 137 cX0_firstBest RX0 vsX0_firstBest) (hN : zEN E = 10) (ho : zEo E = 0) (hz : zEz E = False) (hRm : zER E = rmX0_firstBest) (rc : zHp → Int → Int → Nat → Int → Int → Int → Option ((zHp × Int) ⊕ (zHp × (Int)))) (res : ((zHp × Int) ⊕ (zHp × (Int)))) (v : zHp) (x1 : Int) (x3 : Int) (a4 : Nat) (x5 : Int) (x6 : Int) (x7 : Int) (s0 : Int) (s1 : Int) (K1 : ∀ (w : zHp) (q : Int), res = .inr (w, q) → zV 0 137 w → True → zX E 0 0 137 w 152 [none, none, none, none, none, none, none, none, none, none] []) (K2 : ∀ (w : zHp) (r : Int), res = .inl (w, r) → zRet E cX0_firstBest 0 0 137 (some .int) (zV 0 137 w ∧ zR r) (some (zi r)) w) (hrc0 : True) (h : fX0_firstBest_J140 rc v x1 x3 a4 x5 x6 x7 s0 s1 = some res) (hv : zV 0 137 v) (Rx1 : zR x1) (Rx3 : zR x3) (ga4 : zG E 137 a4 7 10) (Rx5 : zR x5) (Rx6 : zR x6) (Rx7 : zR x7) (Rs0 : zR s0) (Rs1 : zR s1) (hrc : ∀ (v : zHp) (z7 : Int), rc v x1 x3 a4 x5 x6 z7 = some res → zV 0 137 v → zR z7 → zX E 0 0 137 v 50 [some (zr 125), some (zi x1), none, some (zi x3), some (zr a4), some (zi x5), some (zi x6), some (zi z7), none, none] []): zX E 0 0 137 v 140 [some (zr 125), some (zi x1), none, some (zi x3), some (zr a4), some (zi x5), some (zi x6), some (zi x7), none, none] [zi s1, zi s0] := by
  unfold fX0_firstBest_J140 at h
  refine z_icmp_ne (tgt := 146) C Rs0 Rs1 (zd tX0_firstBest 74 rfl) (by decide) h (fun h => ?_) (fun h => ?_)
  · obtain ⟨t12, et12, Rt12, h⟩ := zn_some h
    refine z_iincE C (zd tX0_firstBest 77 rfl) (by rw [hN]; decide) rfl et12 ?_
    refine z_goto (tgt := 50) C (zd tX0_firstBest 78 rfl) (by decide) ?_
    refine z_sub (lo' := [some (zr 125), some (zi x1), none, some (zi x3), some (zr a4), some (zi x5), some (zi x6), some (zi t12), none, none]) (zsub_s (zsub_s (zsub_n (zsub_s (zsub_s (zsub_s (zsub_s (zsub_s (zsub_n (zsub_n zsub_0)))))))))) ?_
    exact hrc v t12 h hv Rt12
  · refine z_iload C (zd tX0_firstBest 75 rfl) rfl ?_
    have K2 := K2 _ _ (Option.some.inj h).symm
    exact K2.1 _ _ _ _ ⟨hv, Rx7⟩ rfl rfl rfl (zd tX0_firstBest 76 rfl)
set_option maxRecDepth 100000 in
set_option maxHeartbeats 4000000 in
theorem jX0_firstBest_J93 {E : zE} (C : zC E 137 cX0_firstBest RX0 vsX0_firstBest) (hN : zEN E = 10) (ho : zEo E = 0) (hz : zEz E = False) (hRm : zER E = rmX0_firstBest) (rc : zHp → Int → Int → Nat → Int → Int → Int → Option ((zHp × Int) ⊕ (zHp × (Int)))) (res : ((zHp × Int) ⊕ (zHp × (Int)))) (v : zHp) (x1 : Int) (x3 : Int) (a4 : Nat) (x5 : Int) (x6 : Int) (x7 : Int) (x8 : Int) (s0 : Int) (K1 : ∀ (w : zHp) (q : Int), res = .inr (w, q) → zV 0 137 w → True → zX E 0 0 137 w 152 [none, none, none, none, none, none, none, none, none, none] []) (K2 : ∀ (w : zHp) (r : Int), res = .inl (w, r) → zRet E cX0_firstBest 0 0 137 (some .int) (zV 0 137 w ∧ zR r) (some (zi r)) w) (hrc0 : True) (h : fX0_firstBest_J93 rc v x1 x3 a4 x5 x6 x7 x8 s0 = some res) (hv : zV 0 137 v) (Rx1 : zR x1) (Rx3 : zR x3) (ga4 : zG E 137 a4 7 10) (Rx5 : zR x5) (Rx6 : zR x6) (Rx7 : zR x7) (Rx8 : zR x8) (Rs0 : zR s0) (hrc : ∀ (v : zHp) (z7 : Int), rc v x1 x3 a4 x5 x6 z7 = some res → zV 0 137 v → zR z7 → zX E 0 0 137 v 50 [some (zr 125), some (zi x1), none, some (zi x3), some (zr a4), some (zi x5), some (zi x6), some (zi z7), none, none] []): zX E 0 0 137 v 93 [some (zr 125), some (zi x1), none, some (zi x3), some (zr a4), some (zi x5), some (zi x6), some (zi x7), some (zi x8), none] [zi s0] := by
  unfold fX0_firstBest_J93 at h
  refine z_istore C (zd tX0_firstBest 51 rfl) (by rw [hN]; decide) ?_
  refine z_iload C (zd tX0_firstBest 52 rfl) rfl ?_
  refine z_if_eq (tgt := 146) C Rs0 (zd tX0_firstBest 53 rfl) (by decide) h (fun h => ?_) (fun h => ?_)
  · obtain ⟨t7, et7, Rt7, h⟩ := zn_some h
    refine z_iincE C (zd tX0_firstBest 77 rfl) (by rw [hN]; decide) rfl et7 ?_
    refine z_goto (tgt := 50) C (zd tX0_firstBest 78 rfl) (by decide) ?_
    refine z_sub (lo' := [some (zr 125), some (zi x1), none, some (zi x3), some (zr a4), some (zi x5), some (zi x6), some (zi t7), none, none]) (zsub_s (zsub_s (zsub_n (zsub_s (zsub_s (zsub_s (zsub_s (zsub_s (zsub_n (zsub_n zsub_0)))))))))) ?_
    exact hrc v t7 h hv Rt7
  · refine z_aload_n C (zd tX0_firstBest 54 rfl) rfl ?_
    refine gl_0_0 (t := 126) C (lg_125 ho) zic_0 (zm zwd_371) (vl_0_0 ho hv (lg_125 ho)) (zd tX0_firstBest 55 rfl) ?_
    refine gl_10_1 (t := 128) C (lg_126 ho) zic_10 (zm zwd_351) (vl_10_1 ho hv (lg_126 ho)) (zd tX0_firstBest 56 rfl) ?_
    refine z_iload_n C (zd tX0_firstBest 57 rfl) rfl ?_
    obtain ⟨q8, h⟩ := zck_some h
    refine za_iald C (lg_128 ho) rfl (by decide) q8 (zd tX0_firstBest 58 rfl) ?_
    refine z_iload C (zd tX0_firstBest 59 rfl) rfl ?_
    refine z_ishr C (zd tX0_firstBest 60 rfl) ?_
    refine z_iconst C (zd tX0_firstBest 61 rfl) ?_
    refine z_iand C (zd tX0_firstBest 62 rfl) ?_
    refine z_if_eq (tgt := 146) C (zR_and _ _) (zd tX0_firstBest 63 rfl) (by decide) h (fun h => ?_) (fun h => ?_)
    · obtain ⟨t9, et9, Rt9, h⟩ := zn_some h
      refine z_iincE C (zd tX0_firstBest 77 rfl) (by rw [hN]; decide) rfl et9 ?_
      refine z_goto (tgt := 50) C (zd tX0_firstBest 78 rfl) (by decide) ?_
      refine z_sub (lo' := [some (zr 125), some (zi x1), none, some (zi x3), some (zr a4), some (zi x5), some (zi x6), some (zi t9), none, none]) (zsub_s (zsub_s (zsub_n (zsub_s (zsub_s (zsub_s (zsub_s (zsub_s (zsub_n (zsub_n zsub_0)))))))))) ?_
      exact hrc v t9 h hv Rt9
    · refine z_aload C (zd tX0_firstBest 64 rfl) rfl ?_
      refine gl_7_1 C ga4 zic_7 (zm zwd_156) (vl_7_1 ho hv ga4) (zd tX0_firstBest 65 rfl) ?_
      refine z_iload C (zd tX0_firstBest 66 rfl) rfl ?_
      obtain ⟨q10, h⟩ := zck_some h
      obtain ⟨u11, eu11, h⟩ := zb_some h
      have gu11 := ge_Premium ho (lk_7_1 ho ga4) q10 eu11
      refine ra_Premium C ho hv (lk_7_1 ho ga4) q10 eu11 (zd tX0_firstBest 67 rfl) ?_
      refine gf_5_1 C gu11 zic_5 (zm zwd_117) (zd tX0_firstBest 68 rfl) ?_
      refine z_iload C (zd tX0_firstBest 69 rfl) rfl ?_
      refine z_if_eq (tgt := 138) C Rx8 (zd tX0_firstBest 70 rfl) (by decide) h (fun h => ?_) (fun h => ?_)
      · refine z_iload C (zd tX0_firstBest 73 rfl) rfl ?_
        refine z_sub (lo' := [some (zr 125), some (zi x1), none, some (zi x3), some (zr a4), some (zi x5), some (zi x6), some (zi x7), none, none]) (zsub_s (zsub_s (zsub_n (zsub_s (zsub_s (zsub_s (zsub_s (zsub_s (zsub_n (zsub_n zsub_0)))))))))) ?_
        exact jX0_firstBest_J140 C hN ho hz hRm _ _ v x1 x3 a4 x5 x6 x7 (v u11 1) x6 K1 K2 trivial h hv Rx1 Rx3 ga4 Rx5 Rx6 Rx7 (hv.1 _ _) Rx6 hrc
      · refine z_iload C (zd tX0_firstBest 71 rfl) rfl ?_
        refine z_goto (tgt := 140) C (zd tX0_firstBest 72 rfl) (by decide) ?_
        refine z_sub (lo' := [some (zr 125), some (zi x1), none, some (zi x3), some (zr a4), some (zi x5), some (zi x6), some (zi x7), none, none]) (zsub_s (zsub_s (zsub_n (zsub_s (zsub_s (zsub_s (zsub_s (zsub_s (zsub_n (zsub_n zsub_0)))))))))) ?_
        exact jX0_firstBest_J140 C hN ho hz hRm _ _ v x1 x3 a4 x5 x6 x7 (v u11 1) x5 K1 K2 trivial h hv Rx1 Rx3 ga4 Rx5 Rx6 Rx7 (hv.1 _ _) Rx5 hrc
set_option maxRecDepth 100000 in
set_option maxHeartbeats 4000000 in
theorem jX0_firstBest_J84 {E : zE} (C : zC E 137 cX0_firstBest RX0 vsX0_firstBest) (hN : zEN E = 10) (ho : zEo E = 0) (hz : zEz E = False) (hRm : zER E = rmX0_firstBest) (rc : zHp → Int → Int → Nat → Int → Int → Int → Option ((zHp × Int) ⊕ (zHp × (Int)))) (res : ((zHp × Int) ⊕ (zHp × (Int)))) (v : zHp) (x1 : Int) (x3 : Int) (a4 : Nat) (x5 : Int) (x6 : Int) (x7 : Int) (x8 : Int) (s0 : Int) (s1 : Int) (K1 : ∀ (w : zHp) (q : Int), res = .inr (w, q) → zV 0 137 w → True → zX E 0 0 137 w 152 [none, none, none, none, none, none, none, none, none, none] []) (K2 : ∀ (w : zHp) (r : Int), res = .inl (w, r) → zRet E cX0_firstBest 0 0 137 (some .int) (zV 0 137 w ∧ zR r) (some (zi r)) w) (hrc0 : True) (h : fX0_firstBest_J84 rc v x1 x3 a4 x5 x6 x7 x8 s0 s1 = some res) (hv : zV 0 137 v) (Rx1 : zR x1) (Rx3 : zR x3) (ga4 : zG E 137 a4 7 10) (Rx5 : zR x5) (Rx6 : zR x6) (Rx7 : zR x7) (Rx8 : zR x8) (Rs0 : zR s0) (Rs1 : zR s1) (hrc : ∀ (v : zHp) (z7 : Int), rc v x1 x3 a4 x5 x6 z7 = some res → zV 0 137 v → zR z7 → zX E 0 0 137 v 50 [some (zr 125), some (zi x1), none, some (zi x3), some (zr a4), some (zi x5), some (zi x6), some (zi z7), none, none] []): zX E 0 0 137 v 84 [some (zr 125), some (zi x1), none, some (zi x3), some (zr a4), some (zi x5), some (zi x6), some (zi x7), some (zi x8), none] [zi s1, zi s0] := by
  unfold fX0_firstBest_J84 at h
  refine z_iand C (zd tX0_firstBest 46 rfl) ?_
  refine z_if_eq (tgt := 92) C (zR_and _ _) (zd tX0_firstBest 47 rfl) (by decide) h (fun h => ?_) (fun h => ?_)
  · refine z_iconst C (zd tX0_firstBest 50 rfl) ?_
    refine z_sub (lo' := [some (zr 125), some (zi x1), none, some (zi x3), some (zr a4), some (zi x5), some (zi x6), some (zi x7), some (zi x8), none]) (zsub_s (zsub_s (zsub_n (zsub_s (zsub_s (zsub_s (zsub_s (zsub_s (zsub_s (zsub_n zsub_0)))))))))) ?_
    exact jX0_firstBest_J93 C hN ho hz hRm _ _ v x1 x3 a4 x5 x6 x7 x8 0 K1 K2 trivial h hv Rx1 Rx3 ga4 Rx5 Rx6 Rx7 Rx8 (zR_c 0 rfl) hrc
  · refine z_iconst C (zd tX0_firstBest 48 rfl) ?_
    refine z_goto (tgt := 93) C (zd tX0_firstBest 49 rfl) (by decide) ?_
    refine z_sub (lo' := [some (zr 125), some (zi x1), none, some (zi x3), some (zr a4), some (zi x5), some (zi x6), some (zi x7), some (zi x8), none]) (zsub_s (zsub_s (zsub_n (zsub_s (zsub_s (zsub_s (zsub_s (zsub_s (zsub_s (zsub_n zsub_0)))))))))) ?_
    exact jX0_firstBest_J93 C hN ho hz hRm _ _ v x1 x3 a4 x5 x6 x7 x8 1 K1 K2 trivial h hv Rx1 Rx3 ga4 Rx5 Rx6 Rx7 Rx8 (zR_c 1 rfl) hrc
set_option maxRecDepth 100000 in
set_option maxHeartbeats 4000000 in
theorem bX0_firstBest_L50 {E : zE} (C : zC E 137 cX0_firstBest RX0 vsX0_firstBest) (hN : zEN E = 10) (ho : zEo E = 0) (hz : zEz E = False) (hRm : zER E = rmX0_firstBest) : ∀ (fu : Nat) (v : zHp) (x1 : Int) (x3 : Int) (a4 : Nat) (x5 : Int) (x6 : Int) (x7 : Int) (res : ((zHp × Int) ⊕ (zHp × (Int)))), fX0_firstBest_L50 fu v x1 x3 a4 x5 x6 x7 = some res → zV 0 137 v → zR x1 → zR x3 → zG E 137 a4 7 10 → zR x5 → zR x6 → zR x7 → (∀ (w : zHp) (q : Int), res = .inr (w, q) → zV 0 137 w → True → zX E 0 0 137 w 152 [none, none, none, none, none, none, none, none, none, none] []) → (∀ (w : zHp) (r : Int), res = .inl (w, r) → zRet E cX0_firstBest 0 0 137 (some .int) (zV 0 137 w ∧ zR r) (some (zi r)) w) → zX E 0 0 137 v 50 [some (zr 125), some (zi x1), none, some (zi x3), some (zr a4), some (zi x5), some (zi x6), some (zi x7), none, none] [] := by
  intro fu
  induction fu with
  | zero =>
    intro v _ _ _ _ _ _ res h
    cases h
  | succ fu ih =>
    intro v x1 x3 a4 x5 x6 x7 res h hv Rx1 Rx3 ga4 Rx5 Rx6 Rx7 K1 K2
    rw [fX0_firstBest_L50.eq_2] at h
    refine z_iload C (zd tX0_firstBest 30 rfl) rfl ?_
    refine z_aload C (zd tX0_firstBest 31 rfl) rfl ?_
    refine gf_7_2 C ga4 zic_7 (zm zwd_160) (zd tX0_firstBest 32 rfl) ?_
    refine z_icmp_ge (tgt := 152) C Rx7 (hv.1 _ _) (zd tX0_firstBest 33 rfl) (by decide) h (fun h => ?_) (fun h => ?_)
    · refine z_sub (lo' := [none, none, none, none, none, none, none, none, none, none]) (zsub_n (zsub_n (zsub_n (zsub_n (zsub_n (zsub_n (zsub_n (zsub_n (zsub_n (zsub_n zsub_0)))))))))) ?_
      exact K1 _ _ (Option.some.inj h).symm hv trivial
    · refine z_aload C (zd tX0_firstBest 34 rfl) rfl ?_
      refine gl_7_1 C ga4 zic_7 (zm zwd_156) (vl_7_1 ho hv ga4) (zd tX0_firstBest 35 rfl) ?_
      refine z_iload C (zd tX0_firstBest 36 rfl) rfl ?_
      obtain ⟨q5, h⟩ := zck_some h
      obtain ⟨u6, eu6, h⟩ := zb_some h
      have gu6 := ge_Premium ho (lk_7_1 ho ga4) q5 eu6
      refine ra_Premium C ho hv (lk_7_1 ho ga4) q5 eu6 (zd tX0_firstBest 37 rfl) ?_
      refine gf_5_2 C gu6 zic_5 (zm zwd_121) (zd tX0_firstBest 38 rfl) ?_
      refine z_istore C (zd tX0_firstBest 39 rfl) (by rw [hN]; decide) ?_
      refine z_iload_n C (zd tX0_firstBest 40 rfl) rfl ?_
      refine z_iload C (zd tX0_firstBest 41 rfl) rfl ?_
      refine z_if_eq (tgt := 83) C (hv.1 _ _) (zd tX0_firstBest 42 rfl) (by decide) h (fun h => ?_) (fun h => ?_)
      · refine z_iconst C (zd tX0_firstBest 45 rfl) ?_
        refine z_sub (lo' := [some (zr 125), some (zi x1), none, some (zi x3), some (zr a4), some (zi x5), some (zi x6), some (zi x7), some (zi (v u6 2)), none]) (zsub_s (zsub_s (zsub_n (zsub_s (zsub_s (zsub_s (zsub_s (zsub_s (zsub_s (zsub_n zsub_0)))))))))) ?_
        exact jX0_firstBest_J84 C hN ho hz hRm _ _ v x1 x3 a4 x5 x6 x7 (v u6 2) x3 2 K1 K2 trivial h hv Rx1 Rx3 ga4 Rx5 Rx6 Rx7 (hv.1 _ _) Rx3 (zR_c 2 rfl) (fun w z7 hw hvw y7 => ih w x1 x3 a4 x5 x6 z7 _ hw hvw Rx1 Rx3 ga4 Rx5 Rx6 y7 K1 K2)
      · refine z_iconst C (zd tX0_firstBest 43 rfl) ?_
        refine z_goto (tgt := 84) C (zd tX0_firstBest 44 rfl) (by decide) ?_
        refine z_sub (lo' := [some (zr 125), some (zi x1), none, some (zi x3), some (zr a4), some (zi x5), some (zi x6), some (zi x7), some (zi (v u6 2)), none]) (zsub_s (zsub_s (zsub_n (zsub_s (zsub_s (zsub_s (zsub_s (zsub_s (zsub_s (zsub_n zsub_0)))))))))) ?_
        exact jX0_firstBest_J84 C hN ho hz hRm _ _ v x1 x3 a4 x5 x6 x7 (v u6 2) x3 1 K1 K2 trivial h hv Rx1 Rx3 ga4 Rx5 Rx6 Rx7 (hv.1 _ _) Rx3 (zR_c 1 rfl) (fun w z7 hw hvw y7 => ih w x1 x3 a4 x5 x6 z7 _ hw hvw Rx1 Rx3 ga4 Rx5 Rx6 y7 K1 K2)
set_option maxRecDepth 100000 in
set_option maxHeartbeats 4000000 in
theorem jX0_firstBest_J47 {E : zE} (C : zC E 137 cX0_firstBest RX0 vsX0_firstBest) (hN : zEN E = 10) (ho : zEo E = 0) (hz : zEz E = False) (hRm : zER E = rmX0_firstBest) {v' : zHp} {r' : Int} (ret : zRet E cX0_firstBest 0 0 137 (some .int) (zV 0 137 v' ∧ zR r') (some (zi r')) v') (v : zHp) (x1 : Int) (x3 : Int) (a4 : Nat) (x5 : Int) (x6 : Int) (h : fX0_firstBest_J47 v x1 x3 a4 x5 x6 = some (v', r')) (hv : zV 0 137 v) (Rx1 : zR x1) (Rx3 : zR x3) (ga4 : zG E 137 a4 7 10) (Rx5 : zR x5) (Rx6 : zR x6) : zX E 0 0 137 v 47 [some (zr 125), some (zi x1), none, some (zi x3), some (zr a4), some (zi x5), some (zi x6), none, none, none] [] := by
  unfold fX0_firstBest_J47 at h
  refine z_iconst C (zd tX0_firstBest 28 rfl) ?_
  refine z_istore C (zd tX0_firstBest 29 rfl) (by rw [hN]; decide) ?_
  refine z_sub (lo' := [some (zr 125), some (zi x1), none, some (zi x3), some (zr a4), some (zi x5), some (zi x6), some (zi 0), none, none]) (zsub_s (zsub_s (zsub_n (zsub_s (zsub_s (zsub_s (zsub_s (zsub_s (zsub_n (zsub_n zsub_0)))))))))) ?_
  rcases zlf_some h with lv13 | ⟨v13, w14, lv13, h⟩
  · exact bX0_firstBest_L50 C hN ho hz hRm zFU v x1 x3 a4 x5 x6 0 _ lv13 hv Rx1 Rx3 ga4 Rx5 Rx6 (zR_c 0 rfl) (fun _ _ e => by cases e) (fun _ _ e => by obtain ⟨rfl, rfl⟩ := zpp (Sum.inl.inj e); exact ret)
  · refine bX0_firstBest_L50 C hN ho hz hRm zFU v x1 x3 a4 x5 x6 0 _ lv13 hv Rx1 Rx3 ga4 Rx5 Rx6 (zR_c 0 rfl) (fun w1 q1 e1 hv13 Rw14 => ?_) (fun _ _ e => by cases e)
    obtain ⟨rfl, rfl⟩ := zpp (Sum.inr.inj e1)
    refine z_iconst C (zd tX0_firstBest 79 rfl) ?_
    obtain ⟨rfl, rfl⟩ := zpi h
    exact ret.1 _ _ _ _ ⟨hv13, (zR_c (-1) rfl)⟩ rfl rfl rfl (zd tX0_firstBest 80 rfl)
set_option maxRecDepth 100000 in
set_option maxHeartbeats 4000000 in
theorem qX0_firstBest (l : Launch) (D : va_G) (ids : Nat → ClassId) (b : Nat) {x1 : Int} (Rx1 : zR x1) {x2 : Int} (Rx2 : zR x2) {x3 : Int} (Rx3 : zR x3) {a4 : Nat} (k4 : zK a4 = (7, 10)) {v v' : zHp} {r' : Int} (hv : zV 0 137 v) (h : fX0_firstBest v x1 x2 x3 a4 = some (v', r')) : zCT l yX0_firstBest vsX0_firstBest rmX0_firstBest D ids b 0 False 137 [zr 125, zi x1, zi x2, zi x3, zr a4] v 137 (zV 0 137 v' ∧ zR r') (some (zi r')) v' 0 0 := by
  refine zMet (own := RX0) (by decide +kernel) (show vsX0_firstBest = _ from rfl) (Nat.le_of_ble_eq_true rfl) rfl ?_
  intro E hl hRm hD hids hb ho hz hN C hname ret
  subst hl hD hids hb
  have ga4 := kg_7 ho k4
  unfold fX0_firstBest at h
  refine z_aload_n C (zd tX0_firstBest 0 rfl) rfl ?_
  refine gl_0_1 (t := 130) C (lg_125 ho) zic_0 (zm zwd_373) (vl_0_1 ho hv (lg_125 ho)) (zd tX0_firstBest 1 rfl) ?_
  refine z_iload_n C (zd tX0_firstBest 2 rfl) rfl ?_
  obtain ⟨q1, h⟩ := zck_some h
  refine za_iald C (lg_130 ho) rfl (by decide) q1 (zd tX0_firstBest 3 rfl) ?_
  refine z_aload_n C (zd tX0_firstBest 4 rfl) rfl ?_
  refine gl_0_3 (t := 132) C (lg_125 ho) zic_0 (zm zwd_375) (vl_0_3 ho hv (lg_125 ho)) (zd tX0_firstBest 5 rfl) ?_
  refine z_iload_n C (zd tX0_firstBest 6 rfl) rfl ?_
  obtain ⟨q2, h⟩ := zck_some h
  refine za_iald C (lg_132 ho) rfl (by decide) q2 (zd tX0_firstBest 7 rfl) ?_
  refine z_max C hRm (hv.1 _ _) (hv.1 _ _) ⟨(zm zwd_791), (zm zwd_712), (zm zwd_14), (zm zwd_713)⟩ ⟨Nat.le_of_ble_eq_true rfl, Nat.le_of_ble_eq_true rfl, Nat.zero_le _, Nat.zero_le _⟩ (zd tX0_firstBest 8 rfl) ?_
  refine z_istore C (zd tX0_firstBest 9 rfl) (by rw [hN]; decide) ?_
  refine z_aload_n C (zd tX0_firstBest 10 rfl) rfl ?_
  refine gl_0_2 (t := 131) C (lg_125 ho) zic_0 (zm zwd_374) (vl_0_2 ho hv (lg_125 ho)) (zd tX0_firstBest 11 rfl) ?_
  refine z_iload_n C (zd tX0_firstBest 12 rfl) rfl ?_
  obtain ⟨q3, h⟩ := zck_some h
  refine za_iald C (lg_131 ho) rfl (by decide) q3 (zd tX0_firstBest 13 rfl) ?_
  refine z_aload_n C (zd tX0_firstBest 14 rfl) rfl ?_
  refine gl_0_4 (t := 133) C (lg_125 ho) zic_0 (zm zwd_376) (vl_0_4 ho hv (lg_125 ho)) (zd tX0_firstBest 15 rfl) ?_
  refine z_iload_n C (zd tX0_firstBest 16 rfl) rfl ?_
  obtain ⟨q4, h⟩ := zck_some h
  refine za_iald C (lg_133 ho) rfl (by decide) q4 (zd tX0_firstBest 17 rfl) ?_
  refine z_max C hRm (hv.1 _ _) (hv.1 _ _) ⟨(zm zwd_791), (zm zwd_712), (zm zwd_14), (zm zwd_713)⟩ ⟨Nat.le_of_ble_eq_true rfl, Nat.le_of_ble_eq_true rfl, Nat.zero_le _, Nat.zero_le _⟩ (zd tX0_firstBest 18 rfl) ?_
  refine z_istore C (zd tX0_firstBest 19 rfl) (by rw [hN]; decide) ?_
  refine z_iload_n C (zd tX0_firstBest 20 rfl) rfl ?_
  refine z_iconst C (zd tX0_firstBest 21 rfl) ?_
  refine z_iand C (zd tX0_firstBest 22 rfl) ?_
  refine z_if_eq (tgt := 47) C (zR_and _ _) (zd tX0_firstBest 23 rfl) (by decide) h (fun h => ?_) (fun h => ?_)
  · refine z_sub (lo' := [some (zr 125), some (zi x1), none, some (zi x3), some (zr a4), some (zi (max (v 130 x1) (v 132 x2))), some (zi (max (v 131 x1) (v 133 x2))), none, none, none]) (zsub_s (zsub_s (zsub_n (zsub_s (zsub_s (zsub_s (zsub_s (zsub_n (zsub_n (zsub_n zsub_0)))))))))) ?_
    exact jX0_firstBest_J47 C hN ho hz hRm ret v x1 x3 a4 (max (v 130 x1) (v 132 x2)) (max (v 131 x1) (v 133 x2)) h hv Rx1 Rx3 ga4 (zR_max (hv.1 _ _) (hv.1 _ _)) (zR_max (hv.1 _ _) (hv.1 _ _))
  · refine z_iload C (zd tX0_firstBest 24 rfl) rfl ?_
    refine z_if_ne (tgt := 47) C (zR_max (hv.1 _ _) (hv.1 _ _)) (zd tX0_firstBest 25 rfl) (by decide) h (fun h => ?_) (fun h => ?_)
    · refine z_sub (lo' := [some (zr 125), some (zi x1), none, some (zi x3), some (zr a4), some (zi (max (v 130 x1) (v 132 x2))), some (zi (max (v 131 x1) (v 133 x2))), none, none, none]) (zsub_s (zsub_s (zsub_n (zsub_s (zsub_s (zsub_s (zsub_s (zsub_n (zsub_n (zsub_n zsub_0)))))))))) ?_
      exact jX0_firstBest_J47 C hN ho hz hRm ret v x1 x3 a4 (max (v 130 x1) (v 132 x2)) (max (v 131 x1) (v 133 x2)) h hv Rx1 Rx3 ga4 (zR_max (hv.1 _ _) (hv.1 _ _)) (zR_max (hv.1 _ _) (hv.1 _ _))
    · refine z_iconst C (zd tX0_firstBest 26 rfl) ?_
      obtain ⟨rfl, rfl⟩ := zpi h
      exact ret.1 _ _ _ _ ⟨hv, (zR_c (-1) rfl)⟩ rfl rfl rfl (zd tX0_firstBest 27 rfl)
noncomputable def vsX0_markAt : List Cond := .code yX0_markAt cX0_markAt 3 (some .int) :: zbig
abbrev rmX0_markAt : Room := { frames := 0, cells := 0, slots := 0, locals := 0 }
theorem pX0_markAt : yX0_markAt.cls = RX0 ∧ yX0_markAt.cls ≠ "java/lang/invoke/MethodHandle" ∧ yX0_markAt.cls ≠ "java/lang/invoke/VarHandle" ∧ (parseMethodDescriptor yX0_markAt.desc).map (fun d => d.parameters.length) = some 2 := by decide +kernel
set_option maxRecDepth 100000 in
set_option maxHeartbeats 4000000 in
theorem qX0_markAt (l : Launch) (D : va_G) (ids : Nat → ClassId) (b : Nat) {x1 : Int} (Rx1 : zR x1) {x2 : Int} (Rx2 : zR x2) {v v' : zHp} {r' : Int} (hv : zV 0 137 v) (h : fX0_markAt v x1 x2 = some (v', r')) : zCT l yX0_markAt vsX0_markAt rmX0_markAt D ids b 0 False 137 [zr 125, zi x1, zi x2] v 137 (zV 0 137 v' ∧ zR r') (some (zi r')) v' 0 0 := by
  refine zMet (own := RX0) (by decide +kernel) (show vsX0_markAt = _ from rfl) (Nat.le_of_ble_eq_true rfl) rfl ?_
  intro E hl hRm hD hids hb ho hz hN C hname ret
  subst hl hD hids hb
  unfold fX0_markAt at h
  refine z_aload_n C (zd tX0_markAt 0 rfl) rfl ?_
  refine gl_0_7 (t := 136) C (lg_125 ho) zic_0 (zm zwd_379) (vl_0_7 ho hv (lg_125 ho)) (zd tX0_markAt 1 rfl) ?_
  refine z_iload_n C (zd tX0_markAt 2 rfl) rfl ?_
  refine z_bipush C (by decide) (zd tX0_markAt 3 rfl) ?_
  refine z_imul C (zd tX0_markAt 4 rfl) ?_
  refine z_iload_n C (zd tX0_markAt 5 rfl) rfl ?_
  refine z_bipush C (by decide) (zd tX0_markAt 6 rfl) ?_
  refine z_idiv C Rx2 (by decide) (zR_c 16 rfl) (zd tX0_markAt 7 rfl) ?_
  refine z_iadd C (zd tX0_markAt 8 rfl) ?_
  obtain ⟨q1, h⟩ := zck_some h
  refine za_iald C (lg_136 ho) rfl (by decide) q1 (zd tX0_markAt 9 rfl) ?_
  refine z_iload_n C (zd tX0_markAt 10 rfl) rfl ?_
  refine z_bipush C (by decide) (zd tX0_markAt 11 rfl) ?_
  refine z_irem C Rx2 (by decide) (zR_c 16 rfl) (zd tX0_markAt 12 rfl) ?_
  refine z_iconst C (zd tX0_markAt 13 rfl) ?_
  refine z_imul C (zd tX0_markAt 14 rfl) ?_
  refine z_ishr C (zd tX0_markAt 15 rfl) ?_
  refine z_iconst C (zd tX0_markAt 16 rfl) ?_
  refine z_iand C (zd tX0_markAt 17 rfl) ?_
  obtain ⟨rfl, rfl⟩ := zpi h
  exact ret.1 _ _ _ _ ⟨hv, (zR_and _ _)⟩ rfl rfl rfl (zd tX0_markAt 18 rfl)
noncomputable def vsX7_countsUnder : List Cond := .code yX7_countsUnder cX7_countsUnder 2 (some .boolean) :: zbig
abbrev rmX7_countsUnder : Room := { frames := 0, cells := 0, slots := 0, locals := 0 }
theorem pX7_countsUnder : yX7_countsUnder.cls = RX7 ∧ yX7_countsUnder.cls ≠ "java/lang/invoke/MethodHandle" ∧ yX7_countsUnder.cls ≠ "java/lang/invoke/VarHandle" ∧ (parseMethodDescriptor yX7_countsUnder.desc).map (fun d => d.parameters.length) = some 1 := by decide +kernel
set_option maxRecDepth 100000 in
set_option maxHeartbeats 4000000 in
theorem qX7_countsUnder (l : Launch) (D : va_G) (ids : Nat → ClassId) (b : Nat) {a0 : Nat} (k0 : zK a0 = (7, 10)) {x1 : Int} (Rx1 : zR x1) {v v' : zHp} {r' : Int} (hv : zV 0 137 v) (h : fX7_countsUnder v a0 x1 = some (v', r')) : zCT l yX7_countsUnder vsX7_countsUnder rmX7_countsUnder D ids b 0 False 137 [zr a0, zi x1] v 137 (zV 0 137 v' ∧ zR r') (some (zi r')) v' 0 0 := by
  refine zMet (own := RX7) (by decide +kernel) (show vsX7_countsUnder = _ from rfl) (Nat.le_of_ble_eq_true rfl) rfl ?_
  intro E hl hRm hD hids hb ho hz hN C hname ret
  subst hl hD hids hb
  have ga0 := kg_7 ho k0
  unfold fX7_countsUnder at h
  refine z_iload_n C (zd tX7_countsUnder 0 rfl) rfl ?_
  refine z_iconst C (zd tX7_countsUnder 1 rfl) ?_
  refine z_icmp_eq (tgt := 17) C Rx1 (zR_c (-1) rfl) (zd tX7_countsUnder 2 rfl) (by decide) h (fun h => ?_) (fun h => ?_)
  · refine z_iconst C (zd tX7_countsUnder 9 rfl) ?_
    refine z_goto (tgt := 22) C (zd tX7_countsUnder 10 rfl) (by decide) ?_
    obtain ⟨rfl, rfl⟩ := zpi h
    exact ret.1 _ _ _ _ ⟨hv, (zR_c 1 rfl)⟩ rfl rfl (by decide) (zd tX7_countsUnder 12 rfl)
  · refine z_aload_n C (zd tX7_countsUnder 3 rfl) rfl ?_
    refine gl_7_1 C ga0 zic_7 (zm zwd_153) (vl_7_1 ho hv ga0) (zd tX7_countsUnder 4 rfl) ?_
    refine z_iload_n C (zd tX7_countsUnder 5 rfl) rfl ?_
    obtain ⟨q1, h⟩ := zck_some h
    obtain ⟨u2, eu2, h⟩ := zb_some h
    have gu2 := ge_Premium ho (lk_7_1 ho ga0) q1 eu2
    refine ra_Premium C ho hv (lk_7_1 ho ga0) q1 eu2 (zd tX7_countsUnder 6 rfl) ?_
    refine gf_5_2 C gu2 zic_5 (zm zwd_118) (zd tX7_countsUnder 7 rfl) ?_
    refine z_if_eq (tgt := 21) C (hv.1 _ _) (zd tX7_countsUnder 8 rfl) (by decide) h (fun h => ?_) (fun h => ?_)
    · refine z_iconst C (zd tX7_countsUnder 11 rfl) ?_
      obtain ⟨rfl, rfl⟩ := zpi h
      exact ret.1 _ _ _ _ ⟨hv, (zR_c 0 rfl)⟩ rfl rfl (by decide) (zd tX7_countsUnder 12 rfl)
    · refine z_iconst C (zd tX7_countsUnder 9 rfl) ?_
      refine z_goto (tgt := 22) C (zd tX7_countsUnder 10 rfl) (by decide) ?_
      obtain ⟨rfl, rfl⟩ := zpi h
      exact ret.1 _ _ _ _ ⟨hv, (zR_c 1 rfl)⟩ rfl rfl (by decide) (zd tX7_countsUnder 12 rfl)
noncomputable def vsX7_hundredthsUnder : List Cond := .code yX7_hundredthsUnder cX7_hundredthsUnder 2 (some .int) :: zbig
abbrev rmX7_hundredthsUnder : Room := { frames := 0, cells := 0, slots := 0, locals := 0 }
theorem pX7_hundredthsUnder : yX7_hundredthsUnder.cls = RX7 ∧ yX7_hundredthsUnder.cls ≠ "java/lang/invoke/MethodHandle" ∧ yX7_hundredthsUnder.cls ≠ "java/lang/invoke/VarHandle" ∧ (parseMethodDescriptor yX7_hundredthsUnder.desc).map (fun d => d.parameters.length) = some 1 := by decide +kernel
set_option maxRecDepth 100000 in
set_option maxHeartbeats 4000000 in
theorem qX7_hundredthsUnder (l : Launch) (D : va_G) (ids : Nat → ClassId) (b : Nat) {a0 : Nat} (k0 : zK a0 = (7, 10)) {x1 : Int} (Rx1 : zR x1) {v v' : zHp} {r' : Int} (hv : zV 0 137 v) (h : fX7_hundredthsUnder v a0 x1 = some (v', r')) : zCT l yX7_hundredthsUnder vsX7_hundredthsUnder rmX7_hundredthsUnder D ids b 0 False 137 [zr a0, zi x1] v 137 (zV 0 137 v' ∧ zR r') (some (zi r')) v' 0 0 := by
  refine zMet (own := RX7) (by decide +kernel) (show vsX7_hundredthsUnder = _ from rfl) (Nat.le_of_ble_eq_true rfl) rfl ?_
  intro E hl hRm hD hids hb ho hz hN C hname ret
  subst hl hD hids hb
  have ga0 := kg_7 ho k0
  unfold fX7_hundredthsUnder at h
  refine z_iload_n C (zd tX7_hundredthsUnder 0 rfl) rfl ?_
  refine z_iconst C (zd tX7_hundredthsUnder 1 rfl) ?_
  refine z_icmp_ne (tgt := 9) C Rx1 (zR_c (-1) rfl) (zd tX7_hundredthsUnder 2 rfl) (by decide) h (fun h => ?_) (fun h => ?_)
  · refine z_aload_n C (zd tX7_hundredthsUnder 5 rfl) rfl ?_
    refine gl_7_1 C ga0 zic_7 (zm zwd_153) (vl_7_1 ho hv ga0) (zd tX7_hundredthsUnder 6 rfl) ?_
    refine z_iload_n C (zd tX7_hundredthsUnder 7 rfl) rfl ?_
    obtain ⟨q1, h⟩ := zck_some h
    obtain ⟨u2, eu2, h⟩ := zb_some h
    have gu2 := ge_Premium ho (lk_7_1 ho ga0) q1 eu2
    refine ra_Premium C ho hv (lk_7_1 ho ga0) q1 eu2 (zd tX7_hundredthsUnder 8 rfl) ?_
    refine gf_5_1 C gu2 zic_5 (zm zwd_114) (zd tX7_hundredthsUnder 9 rfl) ?_
    obtain ⟨rfl, rfl⟩ := zpi h
    exact ret.1 _ _ _ _ ⟨hv, (hv.1 _ _)⟩ rfl rfl rfl (zd tX7_hundredthsUnder 10 rfl)
  · refine z_iconst C (zd tX7_hundredthsUnder 3 rfl) ?_
    refine z_goto (tgt := 18) C (zd tX7_hundredthsUnder 4 rfl) (by decide) ?_
    obtain ⟨rfl, rfl⟩ := zpi h
    exact ret.1 _ _ _ _ ⟨hv, (zR_c 0 rfl)⟩ rfl rfl rfl (zd tX7_hundredthsUnder 10 rfl)
noncomputable def vsX7_weekBits : List Cond := .code yX7_weekBits cX7_weekBits 4 (some .int) :: zbig
abbrev rmX7_weekBits : Room := { frames := 0, cells := 0, slots := 0, locals := 0 }
theorem pX7_weekBits : yX7_weekBits.cls = RX7 ∧ yX7_weekBits.cls ≠ "java/lang/invoke/MethodHandle" ∧ yX7_weekBits.cls ≠ "java/lang/invoke/VarHandle" ∧ (parseMethodDescriptor yX7_weekBits.desc).map (fun d => d.parameters.length) = some 1 := by decide +kernel
set_option maxRecDepth 100000 in
set_option maxHeartbeats 4000000 in
theorem bX7_weekBits_L4 {E : zE} (C : zC E 137 cX7_weekBits RX7 vsX7_weekBits) (hN : zEN E = 4) (ho : zEo E = 0) (hz : zEz E = False) (hRm : zER E = rmX7_weekBits) : ∀ (fu : Nat) (v : zHp) (a0 : Nat) (x1 : Int) (x2 : Int) (x3 : Int) (res : (zHp × (Int))), fX7_weekBits_L4 fu v a0 x1 x2 x3 = some res → zV 0 137 v → zG E 137 a0 7 10 → zR x1 → zR x2 → zR x3 → (∀ (w : zHp) (q : Int), res = (w, q) → zV 0 137 w → zR q → zX E 0 0 137 w 50 [none, none, some (zi q), none] []) → zX E 0 0 137 v 4 [some (zr a0), some (zi x1), some (zi x2), some (zi x3)] [] := by
  intro fu
  induction fu with
  | zero =>
    intro v _ _ _ _ res h
    cases h
  | succ fu ih =>
    intro v a0 x1 x2 x3 res h hv ga0 Rx1 Rx2 Rx3 K1
    rw [fX7_weekBits_L4.eq_2] at h
    refine z_iload_n C (zd tX7_weekBits 4 rfl) rfl ?_
    refine z_aload_n C (zd tX7_weekBits 5 rfl) rfl ?_
    refine gf_7_2 C ga0 zic_7 (zm zwd_157) (zd tX7_weekBits 6 rfl) ?_
    refine z_icmp_ge (tgt := 50) C Rx3 (hv.1 _ _) (zd tX7_weekBits 7 rfl) (by decide) h (fun h => ?_) (fun h => ?_)
    · refine z_sub (lo' := [none, none, some (zi x2), none]) (zsub_n (zsub_n (zsub_s (zsub_n zsub_0)))) ?_
      exact K1 _ _ (Option.some.inj h).symm hv Rx2
    · refine z_aload_n C (zd tX7_weekBits 8 rfl) rfl ?_
      refine gl_7_1 C ga0 zic_7 (zm zwd_153) (vl_7_1 ho hv ga0) (zd tX7_weekBits 9 rfl) ?_
      refine z_iload_n C (zd tX7_weekBits 10 rfl) rfl ?_
      obtain ⟨q1, h⟩ := zck_some h
      obtain ⟨u2, eu2, h⟩ := zb_some h
      have gu2 := ge_Premium ho (lk_7_1 ho ga0) q1 eu2
      refine ra_Premium C ho hv (lk_7_1 ho ga0) q1 eu2 (zd tX7_weekBits 11 rfl) ?_
      refine gf_5_0 C gu2 zic_5 (zm zwd_113) (zd tX7_weekBits 12 rfl) ?_
      refine z_iconst C (zd tX7_weekBits 13 rfl) ?_
      refine z_icmp_ne (tgt := 44) C (hv.1 _ _) (zR_c 1 rfl) (zd tX7_weekBits 14 rfl) (by decide) h (fun h => ?_) (fun h => ?_)
      · obtain ⟨t3, et3, Rt3, h⟩ := zn_some h
        refine z_iincE C (zd tX7_weekBits 28 rfl) (by rw [hN]; decide) rfl et3 ?_
        refine z_goto (tgt := 4) C (zd tX7_weekBits 29 rfl) (by decide) ?_
        refine z_sub (lo' := [some (zr a0), some (zi x1), some (zi x2), some (zi t3)]) (zsub_s (zsub_s (zsub_s (zsub_s zsub_0)))) ?_
        exact ih v a0 x1 x2 t3 _ h hv ga0 Rx1 Rx2 Rt3 K1
      · refine z_iload_n C (zd tX7_weekBits 15 rfl) rfl ?_
        refine z_aload_n C (zd tX7_weekBits 16 rfl) rfl ?_
        refine gl_7_1 C ga0 zic_7 (zm zwd_153) (vl_7_1 ho hv ga0) (zd tX7_weekBits 17 rfl) ?_
        refine z_iload_n C (zd tX7_weekBits 18 rfl) rfl ?_
        obtain ⟨q4, h⟩ := zck_some h
        obtain ⟨u5, eu5, h⟩ := zb_some h
        have gu5 := ge_Premium ho (lk_7_1 ho ga0) q4 eu5
        refine ra_Premium C ho hv (lk_7_1 ho ga0) q4 eu5 (zd tX7_weekBits 19 rfl) ?_
        refine gf_5_3 C gu5 zic_5 (zm zwd_125) (zd tX7_weekBits 20 rfl) ?_
        refine z_icmp_lt (tgt := 44) C Rx1 (hv.1 _ _) (zd tX7_weekBits 21 rfl) (by decide) h (fun h => ?_) (fun h => ?_)
        · obtain ⟨t6, et6, Rt6, h⟩ := zn_some h
          refine z_iincE C (zd tX7_weekBits 28 rfl) (by rw [hN]; decide) rfl et6 ?_
          refine z_goto (tgt := 4) C (zd tX7_weekBits 29 rfl) (by decide) ?_
          refine z_sub (lo' := [some (zr a0), some (zi x1), some (zi x2), some (zi t6)]) (zsub_s (zsub_s (zsub_s (zsub_s zsub_0)))) ?_
          exact ih v a0 x1 x2 t6 _ h hv ga0 Rx1 Rx2 Rt6 K1
        · refine z_iload_n C (zd tX7_weekBits 22 rfl) rfl ?_
          refine z_iconst C (zd tX7_weekBits 23 rfl) ?_
          refine z_iload_n C (zd tX7_weekBits 24 rfl) rfl ?_
          refine z_ishl C (zd tX7_weekBits 25 rfl) ?_
          refine z_ior C (zd tX7_weekBits 26 rfl) ?_
          refine z_istore_n C (zd tX7_weekBits 27 rfl) (by rw [hN]; decide) ?_
          obtain ⟨t7, et7, Rt7, h⟩ := zn_some h
          refine z_iincE C (zd tX7_weekBits 28 rfl) (by rw [hN]; decide) rfl et7 ?_
          refine z_goto (tgt := 4) C (zd tX7_weekBits 29 rfl) (by decide) ?_
          refine z_sub (lo' := [some (zr a0), some (zi x1), some (zi (zor x2 (zshl 1 x3))), some (zi t7)]) (zsub_s (zsub_s (zsub_s (zsub_s zsub_0)))) ?_
          exact ih v a0 x1 (zor x2 (zshl 1 x3)) t7 _ h hv ga0 Rx1 (zR_or _ _) Rt7 K1
set_option maxRecDepth 100000 in
set_option maxHeartbeats 4000000 in
theorem qX7_weekBits (l : Launch) (D : va_G) (ids : Nat → ClassId) (b : Nat) {a0 : Nat} (k0 : zK a0 = (7, 10)) {x1 : Int} (Rx1 : zR x1) {v v' : zHp} {r' : Int} (hv : zV 0 137 v) (h : fX7_weekBits v a0 x1 = some (v', r')) : zCT l yX7_weekBits vsX7_weekBits rmX7_weekBits D ids b 0 False 137 [zr a0, zi x1] v 137 (zV 0 137 v' ∧ zR r') (some (zi r')) v' 0 0 := by
  refine zMet (own := RX7) (by decide +kernel) (show vsX7_weekBits = _ from rfl) (Nat.le_of_ble_eq_true rfl) rfl ?_
  intro E hl hRm hD hids hb ho hz hN C hname ret
  subst hl hD hids hb
  have ga0 := kg_7 ho k0
  unfold fX7_weekBits at h
  refine z_iconst C (zd tX7_weekBits 0 rfl) ?_
  refine z_istore_n C (zd tX7_weekBits 1 rfl) (by rw [hN]; decide) ?_
  refine z_iconst C (zd tX7_weekBits 2 rfl) ?_
  refine z_istore_n C (zd tX7_weekBits 3 rfl) (by rw [hN]; decide) ?_
  refine z_sub (lo' := [some (zr a0), some (zi x1), some (zi 0), some (zi 0)]) (zsub_s (zsub_s (zsub_s (zsub_s zsub_0)))) ?_
  obtain ⟨v8, w9, lv8, h⟩ := zl_some h
  refine bX7_weekBits_L4 C hN ho hz hRm zFU v a0 x1 0 0 _ lv8 hv ga0 Rx1 (zR_c 0 rfl) (zR_c 0 rfl) (fun w1 q1 e1 hv8 Rw9 => ?_)
  obtain ⟨rfl, rfl⟩ := zpp e1
  refine z_iload_n C (zd tX7_weekBits 30 rfl) rfl ?_
  obtain ⟨rfl, rfl⟩ := zpi h
  exact ret.1 _ _ _ _ ⟨hv8, Rw9⟩ rfl rfl rfl (zd tX7_weekBits 31 rfl)
noncomputable def vsX0_followMarks : List Cond := .code yX0_followMarks cX0_followMarks 6 (some .int) :: zbig
abbrev rmX0_followMarks : Room := { frames := 2, cells := 0, slots := 0, locals := 50 }
theorem pX0_followMarks : yX0_followMarks.cls = RX0 ∧ yX0_followMarks.cls ≠ "java/lang/invoke/MethodHandle" ∧ yX0_followMarks.cls ≠ "java/lang/invoke/VarHandle" ∧ (parseMethodDescriptor yX0_followMarks.desc).map (fun d => d.parameters.length) = some 2 := by decide +kernel
set_option maxRecDepth 100000 in
set_option maxHeartbeats 4000000 in
theorem bX0_followMarks_L8 {E : zE} (C : zC E 137 cX0_followMarks RX0 vsX0_followMarks) (hN : zEN E = 6) (ho : zEo E = 0) (hz : zEz E = False) (hRm : zER E = rmX0_followMarks) : ∀ (fu : Nat) (v : zHp) (a1 : Nat) (x2 : Int) (x3 : Int) (x4 : Int) (x5 : Int) (res : (zHp × (Int))), fX0_followMarks_L8 fu v a1 x2 x3 x4 x5 = some res → zV 0 137 v → zG E 137 a1 7 10 → zR x2 → zR x3 → zR x4 → zR x5 → (∀ (w : zHp) (q : Int), res = (w, q) → zV 0 137 w → zR q → zX E 0 0 137 w 120 [none, none, none, some (zi q), none, none] []) → zX E 0 0 137 v 8 [some (zr 125), some (zr a1), some (zi x2), some (zi x3), some (zi x4), some (zi x5)] [] := by
  intro fu
  induction fu with
  | zero =>
    intro v _ _ _ _ _ res h
    cases h
  | succ fu ih =>
    intro v a1 x2 x3 x4 x5 res h hv ga1 Rx2 Rx3 Rx4 Rx5 K1
    rw [fX0_followMarks_L8.eq_2] at h
    refine z_iload C (zd tX0_followMarks 6 rfl) rfl ?_
    refine z_aload_n C (zd tX0_followMarks 7 rfl) rfl ?_
    refine gl_0_0 (t := 126) C (lg_125 ho) zic_0 (zm zwd_371) (vl_0_0 ho hv (lg_125 ho)) (zd tX0_followMarks 8 rfl) ?_
    refine gf_10_3 C (lg_126 ho) zic_10 (zm zwd_357) (zd tX0_followMarks 9 rfl) ?_
    refine z_icmp_ge (tgt := 120) C Rx5 (hv.1 _ _) (zd tX0_followMarks 10 rfl) (by decide) h (fun h => ?_) (fun h => ?_)
    · refine z_sub (lo' := [none, none, none, some (zi x3), none, none]) (zsub_n (zsub_n (zsub_n (zsub_s (zsub_n (zsub_n zsub_0)))))) ?_
      exact K1 _ _ (Option.some.inj h).symm hv Rx3
    · refine z_aload_n C (zd tX0_followMarks 11 rfl) rfl ?_
      refine gl_0_0 (t := 126) C (lg_125 ho) zic_0 (zm zwd_371) (vl_0_0 ho hv (lg_125 ho)) (zd tX0_followMarks 12 rfl) ?_
      refine gl_10_1 (t := 128) C (lg_126 ho) zic_10 (zm zwd_351) (vl_10_1 ho hv (lg_126 ho)) (zd tX0_followMarks 13 rfl) ?_
      refine z_iload C (zd tX0_followMarks 14 rfl) rfl ?_
      refine z_dup2 C (zd tX0_followMarks 15 rfl) ?_
      obtain ⟨q1, h⟩ := zck_some h
      refine za_iald C (lg_128 ho) rfl (by decide) q1 (zd tX0_followMarks 16 rfl) ?_
      refine z_aload_n C (zd tX0_followMarks 17 rfl) rfl ?_
      refine z_iload C (zd tX0_followMarks 18 rfl) rfl ?_
      obtain ⟨v2, r3, cv2, h⟩ := zcl_some h
      refine zc_V C ho hz hRm (qX7_weekBits _ _ _ _ ga1.1 Rx4 hv cv2) ga1 (by decide) rfl (zgV zwd_777 zwd_753 zwd_754 zwd_4 zwd_755) rfl pX7_weekBits rfl ⟨rfl, rfl⟩ ⟨Nat.le_of_ble_eq_true rfl, Nat.le_of_ble_eq_true rfl⟩ [zi (v 128 x5), zi x5, zr 128] rfl (Nat.le_of_ble_eq_true rfl) (zd tX0_followMarks 19 rfl) [zi r3, zi (v 128 x5), zi x5, zr 128] rfl (fun p4 => ?_)
      refine z_iload_n C (zd tX0_followMarks 20 rfl) rfl ?_
      refine z_iand C (zd tX0_followMarks 21 rfl) ?_
      refine z_ior C (zd tX0_followMarks 22 rfl) ?_
      obtain ⟨q5, h⟩ := zck_some h
      obtain ⟨v6, ev6, h⟩ := zb_some h
      have hv6 : zV 0 137 v6 := by rw [ev6]; exact p4.1.st (zR_or _ _) (lg_128 ho).1 (Or.inr rfl)
      refine za_iast C (lg_128 ho) rfl (by decide) q5 ev6 (zd tX0_followMarks 23 rfl) ?_
      refine z_aload_n C (zd tX0_followMarks 24 rfl) rfl ?_
      refine gl_0_0 (t := 126) C (lg_125 ho) zic_0 (zm zwd_371) (vl_0_0 ho hv6 (lg_125 ho)) (zd tX0_followMarks 25 rfl) ?_
      refine gl_10_2 (t := 129) C (lg_126 ho) zic_10 (zm zwd_354) (vl_10_2 ho hv6 (lg_126 ho)) (zd tX0_followMarks 26 rfl) ?_
      refine z_iload C (zd tX0_followMarks 27 rfl) rfl ?_
      refine z_aload_n C (zd tX0_followMarks 28 rfl) rfl ?_
      refine z_iload C (zd tX0_followMarks 29 rfl) rfl ?_
      refine z_iload C (zd tX0_followMarks 30 rfl) rfl ?_
      refine z_aload_n C (zd tX0_followMarks 31 rfl) rfl ?_
      refine z_iload C (zd tX0_followMarks 32 rfl) rfl ?_
      refine z_iload C (zd tX0_followMarks 33 rfl) rfl ?_
      obtain ⟨v7, r8, cv7, h⟩ := zcl_some h
      refine zc_V C ho hz hRm (qX0_markAt _ _ _ _ Rx5 Rx4 hv6 cv7) (lg_125 ho) (by decide) rfl (zgV zwd_800 zwd_802 zws_23 zwd_11 zwd_803) rfl pX0_markAt rfl ⟨rfl, rfl⟩ ⟨Nat.le_of_ble_eq_true rfl, Nat.le_of_ble_eq_true rfl⟩ [zi x4, zi x5, zr 125, zi x5, zr 129] rfl (Nat.le_of_ble_eq_true rfl) (zd tX0_followMarks 34 rfl) [zi r8, zi x4, zi x5, zr 125, zi x5, zr 129] rfl (fun p9 => ?_)
      refine z_aload_n C (zd tX0_followMarks 35 rfl) rfl ?_
      obtain ⟨v10, r11, cv10, h⟩ := zcl_some h
      refine zc_V C ho hz hRm (qX0_firstBest _ _ _ _ Rx5 Rx4 p9.2 ga1.1 p9.1 cv10) (lg_125 ho) (by decide) rfl (zgV zwd_804 zwd_806 zws_24 zwd_11 zwd_807) rfl pX0_firstBest rfl ⟨rfl, rfl⟩ ⟨Nat.le_of_ble_eq_true rfl, Nat.le_of_ble_eq_true rfl⟩ [zi x5, zr 129] rfl (Nat.le_of_ble_eq_true rfl) (zd tX0_followMarks 36 rfl) [zi r11, zi x5, zr 129] rfl (fun p12 => ?_)
      obtain ⟨q13, h⟩ := zck_some h
      obtain ⟨v14, ev14, h⟩ := zb_some h
      have hv14 : zV 0 137 v14 := by rw [ev14]; exact p12.1.st p12.2 (lg_129 ho).1 (Or.inr rfl)
      refine za_iast C (lg_129 ho) rfl (by decide) q13 ev14 (zd tX0_followMarks 37 rfl) ?_
      refine z_iload_n C (zd tX0_followMarks 38 rfl) rfl ?_
      refine z_aload_n C (zd tX0_followMarks 39 rfl) rfl ?_
      refine z_aload_n C (zd tX0_followMarks 40 rfl) rfl ?_
      refine gl_0_0 (t := 126) C (lg_125 ho) zic_0 (zm zwd_371) (vl_0_0 ho hv14 (lg_125 ho)) (zd tX0_followMarks 41 rfl) ?_
      refine gl_10_2 (t := 129) C (lg_126 ho) zic_10 (zm zwd_354) (vl_10_2 ho hv14 (lg_126 ho)) (zd tX0_followMarks 42 rfl) ?_
      refine z_iload C (zd tX0_followMarks 43 rfl) rfl ?_
      obtain ⟨q15, h⟩ := zck_some h
      refine za_iald C (lg_129 ho) rfl (by decide) q15 (zd tX0_followMarks 44 rfl) ?_
      obtain ⟨v16, r17, cv16, h⟩ := zcl_some h
      refine zc_V C ho hz hRm (qX7_hundredthsUnder _ _ _ _ ga1.1 (hv14.1 _ _) hv14 cv16) ga1 (by decide) rfl (zgV zwd_808 zwd_761 zwd_762 zwd_4 zwd_763) rfl pX7_hundredthsUnder rfl ⟨rfl, rfl⟩ ⟨Nat.le_of_ble_eq_true rfl, Nat.le_of_ble_eq_true rfl⟩ [zi x3] rfl (Nat.le_of_ble_eq_true rfl) (zd tX0_followMarks 45 rfl) [zi r17, zi x3] rfl (fun p18 => ?_)
      refine z_iadd C (zd tX0_followMarks 46 rfl) ?_
      obtain ⟨t19, et19, Rt19, h⟩ := zn_some h
      refine z_n0 (congrArg zI et19.symm) ?_
      refine z_istore_n C (zd tX0_followMarks 47 rfl) (by rw [hN]; decide) ?_
      refine z_aload_n C (zd tX0_followMarks 48 rfl) rfl ?_
      refine z_aload_n C (zd tX0_followMarks 49 rfl) rfl ?_
      refine gl_0_0 (t := 126) C (lg_125 ho) zic_0 (zm zwd_371) (vl_0_0 ho p18.1 (lg_125 ho)) (zd tX0_followMarks 50 rfl) ?_
      refine gl_10_2 (t := 129) C (lg_126 ho) zic_10 (zm zwd_354) (vl_10_2 ho p18.1 (lg_126 ho)) (zd tX0_followMarks 51 rfl) ?_
      refine z_iload C (zd tX0_followMarks 52 rfl) rfl ?_
      obtain ⟨q20, h⟩ := zck_some h
      refine za_iald C (lg_129 ho) rfl (by decide) q20 (zd tX0_followMarks 53 rfl) ?_
      obtain ⟨v21, r22, cv21, h⟩ := zcl_some h
      refine zc_V C ho hz hRm (qX7_countsUnder _ _ _ _ ga1.1 (p18.1.1 _ _) p18.1 cv21) ga1 (by decide) rfl (zgV zwd_809 zwd_765 zwd_766 zwd_4 zwd_767) rfl pX7_countsUnder rfl ⟨rfl, rfl⟩ ⟨Nat.le_of_ble_eq_true rfl, Nat.le_of_ble_eq_true rfl⟩ [] rfl (Nat.le_of_ble_eq_true rfl) (zd tX0_followMarks 54 rfl) [zi r22] rfl (fun p23 => ?_)
      refine z_if_eq (tgt := 114) C p23.2 (zd tX0_followMarks 55 rfl) (by decide) h (fun h => ?_) (fun h => ?_)
      · obtain ⟨t24, et24, Rt24, h⟩ := zn_some h
        refine z_iincE C (zd tX0_followMarks 61 rfl) (by rw [hN]; decide) rfl et24 ?_
        refine z_goto (tgt := 8) C (zd tX0_followMarks 62 rfl) (by decide) ?_
        refine z_sub (lo' := [some (zr 125), some (zr a1), some (zi x2), some (zi t19), some (zi x4), some (zi t24)]) (zsub_s (zsub_s (zsub_s (zsub_s (zsub_s (zsub_s zsub_0)))))) ?_
        exact ih v21 a1 x2 t19 x4 t24 _ h p23.1 ga1 Rx2 Rt19 Rx4 Rt24 K1
      · refine z_iload C (zd tX0_followMarks 56 rfl) rfl ?_
        refine z_aload_n C (zd tX0_followMarks 57 rfl) rfl ?_
        refine gf_0_8 C (lg_125 ho) zic_0 (zm zwd_380) (zd tX0_followMarks 58 rfl) ?_
        refine z_icmp_ge (tgt := 114) C Rx4 (p23.1.1 _ _) (zd tX0_followMarks 59 rfl) (by decide) h (fun h => ?_) (fun h => ?_)
        · obtain ⟨t25, et25, Rt25, h⟩ := zn_some h
          refine z_iincE C (zd tX0_followMarks 61 rfl) (by rw [hN]; decide) rfl et25 ?_
          refine z_goto (tgt := 8) C (zd tX0_followMarks 62 rfl) (by decide) ?_
          refine z_sub (lo' := [some (zr 125), some (zr a1), some (zi x2), some (zi t19), some (zi x4), some (zi t25)]) (zsub_s (zsub_s (zsub_s (zsub_s (zsub_s (zsub_s zsub_0)))))) ?_
          exact ih v21 a1 x2 t19 x4 t25 _ h p23.1 ga1 Rx2 Rt19 Rx4 Rt25 K1
        · obtain ⟨t26, et26, Rt26, h⟩ := zn_some h
          refine z_iincE C (zd tX0_followMarks 60 rfl) (by rw [hN]; decide) rfl et26 ?_
          obtain ⟨t27, et27, Rt27, h⟩ := zn_some h
          refine z_iincE C (zd tX0_followMarks 61 rfl) (by rw [hN]; decide) rfl et27 ?_
          refine z_goto (tgt := 8) C (zd tX0_followMarks 62 rfl) (by decide) ?_
          refine z_sub (lo' := [some (zr 125), some (zr a1), some (zi x2), some (zi t19), some (zi t26), some (zi t27)]) (zsub_s (zsub_s (zsub_s (zsub_s (zsub_s (zsub_s zsub_0)))))) ?_
          exact ih v21 a1 x2 t19 t26 t27 _ h p23.1 ga1 Rx2 Rt19 Rt26 Rt27 K1
set_option maxRecDepth 100000 in
set_option maxHeartbeats 4000000 in
theorem qX0_followMarks (l : Launch) (D : va_G) (ids : Nat → ClassId) (b : Nat) {a1 : Nat} (k1 : zK a1 = (7, 10)) {x2 : Int} (Rx2 : zR x2) {v v' : zHp} {r' : Int} (hv : zV 0 137 v) (h : fX0_followMarks v a1 x2 = some (v', r')) : zCT l yX0_followMarks vsX0_followMarks rmX0_followMarks D ids b 0 False 137 [zr 125, zr a1, zi x2] v 137 (zV 0 137 v' ∧ zR r') (some (zi r')) v' 0 0 := by
  refine zMet (own := RX0) (by decide +kernel) (show vsX0_followMarks = _ from rfl) (Nat.le_of_ble_eq_true rfl) rfl ?_
  intro E hl hRm hD hids hb ho hz hN C hname ret
  subst hl hD hids hb
  have ga1 := kg_7 ho k1
  unfold fX0_followMarks at h
  refine z_iconst C (zd tX0_followMarks 0 rfl) ?_
  refine z_istore_n C (zd tX0_followMarks 1 rfl) (by rw [hN]; decide) ?_
  refine z_iconst C (zd tX0_followMarks 2 rfl) ?_
  refine z_istore C (zd tX0_followMarks 3 rfl) (by rw [hN]; decide) ?_
  refine z_iconst C (zd tX0_followMarks 4 rfl) ?_
  refine z_istore C (zd tX0_followMarks 5 rfl) (by rw [hN]; decide) ?_
  refine z_sub (lo' := [some (zr 125), some (zr a1), some (zi x2), some (zi 0), some (zi 0), some (zi 0)]) (zsub_s (zsub_s (zsub_s (zsub_s (zsub_s (zsub_s zsub_0)))))) ?_
  obtain ⟨v28, w29, lv28, h⟩ := zl_some h
  refine bX0_followMarks_L8 C hN ho hz hRm zFU v a1 x2 0 0 0 _ lv28 hv ga1 Rx2 (zR_c 0 rfl) (zR_c 0 rfl) (zR_c 0 rfl) (fun w1 q1 e1 hv28 Rw29 => ?_)
  obtain ⟨rfl, rfl⟩ := zpp e1
  refine z_iload_n C (zd tX0_followMarks 63 rfl) rfl ?_
  obtain ⟨rfl, rfl⟩ := zpi h
  exact ret.1 _ _ _ _ ⟨hv28, Rw29⟩ rfl rfl rfl (zd tX0_followMarks 64 rfl)
noncomputable def vsX0_setMark : List Cond := .code yX0_setMark cX0_setMark 6 none :: zbig
abbrev rmX0_setMark : Room := { frames := 0, cells := 0, slots := 0, locals := 0 }
theorem pX0_setMark : yX0_setMark.cls = RX0 ∧ yX0_setMark.cls ≠ "java/lang/invoke/MethodHandle" ∧ yX0_setMark.cls ≠ "java/lang/invoke/VarHandle" ∧ (parseMethodDescriptor yX0_setMark.desc).map (fun d => d.parameters.length) = some 3 := by decide +kernel
set_option maxRecDepth 100000 in
set_option maxHeartbeats 4000000 in
theorem qX0_setMark (l : Launch) (D : va_G) (ids : Nat → ClassId) (b : Nat) {x1 : Int} (Rx1 : zR x1) {x2 : Int} (Rx2 : zR x2) {x3 : Int} (Rx3 : zR x3) {v v' : zHp} {r' : Int} (hv : zV 0 137 v) (h : fX0_setMark v x1 x2 x3 = some (v', r')) : zCT l yX0_setMark vsX0_setMark rmX0_setMark D ids b 0 False 137 [zr 125, zi x1, zi x2, zi x3] v 137 (zV 0 137 v') none v' 0 0 := by
  refine zMet (own := RX0) (by decide +kernel) (show vsX0_setMark = _ from rfl) (Nat.le_of_ble_eq_true rfl) rfl ?_
  intro E hl hRm hD hids hb ho hz hN C hname ret
  subst hl hD hids hb
  unfold fX0_setMark at h
  refine z_iload_n C (zd tX0_setMark 0 rfl) rfl ?_
  refine z_bipush C (by decide) (zd tX0_setMark 1 rfl) ?_
  refine z_imul C (zd tX0_setMark 2 rfl) ?_
  refine z_iload_n C (zd tX0_setMark 3 rfl) rfl ?_
  refine z_bipush C (by decide) (zd tX0_setMark 4 rfl) ?_
  refine z_idiv C Rx2 (by decide) (zR_c 16 rfl) (zd tX0_setMark 5 rfl) ?_
  refine z_iadd C (zd tX0_setMark 6 rfl) ?_
  obtain ⟨t1, et1, Rt1, h⟩ := zn_some h
  refine z_n0 (congrArg zI et1.symm) ?_
  refine z_istore C (zd tX0_setMark 7 rfl) (by rw [hN]; decide) ?_
  refine z_iload_n C (zd tX0_setMark 8 rfl) rfl ?_
  refine z_bipush C (by decide) (zd tX0_setMark 9 rfl) ?_
  refine z_irem C Rx2 (by decide) (zR_c 16 rfl) (zd tX0_setMark 10 rfl) ?_
  refine z_iconst C (zd tX0_setMark 11 rfl) ?_
  refine z_imul C (zd tX0_setMark 12 rfl) ?_
  obtain ⟨t2, et2, Rt2, h⟩ := zn_some h
  refine z_n0 (congrArg zI et2.symm) ?_
  refine z_istore C (zd tX0_setMark 13 rfl) (by rw [hN]; decide) ?_
  refine z_aload_n C (zd tX0_setMark 14 rfl) rfl ?_
  refine gl_0_7 (t := 136) C (lg_125 ho) zic_0 (zm zwd_379) (vl_0_7 ho hv (lg_125 ho)) (zd tX0_setMark 15 rfl) ?_
  refine z_iload C (zd tX0_setMark 16 rfl) rfl ?_
  refine z_aload_n C (zd tX0_setMark 17 rfl) rfl ?_
  refine gl_0_7 (t := 136) C (lg_125 ho) zic_0 (zm zwd_379) (vl_0_7 ho hv (lg_125 ho)) (zd tX0_setMark 18 rfl) ?_
  refine z_iload C (zd tX0_setMark 19 rfl) rfl ?_
  obtain ⟨q3, h⟩ := zck_some h
  refine za_iald C (lg_136 ho) rfl (by decide) q3 (zd tX0_setMark 20 rfl) ?_
  refine z_iconst C (zd tX0_setMark 21 rfl) ?_
  refine z_iload C (zd tX0_setMark 22 rfl) rfl ?_
  refine z_ishl C (zd tX0_setMark 23 rfl) ?_
  refine z_iconst C (zd tX0_setMark 24 rfl) ?_
  refine z_ixor C (zd tX0_setMark 25 rfl) ?_
  refine z_iand C (zd tX0_setMark 26 rfl) ?_
  refine z_iload_n C (zd tX0_setMark 27 rfl) rfl ?_
  refine z_iload C (zd tX0_setMark 28 rfl) rfl ?_
  refine z_ishl C (zd tX0_setMark 29 rfl) ?_
  refine z_ior C (zd tX0_setMark 30 rfl) ?_
  obtain ⟨q4, h⟩ := zck_some h
  obtain ⟨v5, ev5, h⟩ := zb_some h
  have hv5 : zV 0 137 v5 := by rw [ev5]; exact hv.st (zR_or _ _) (lg_136 ho).1 (Or.inr rfl)
  refine za_iast C (lg_136 ho) rfl (by decide) q4 ev5 (zd tX0_setMark 31 rfl) ?_
  obtain ⟨rfl, rfl⟩ := zpi h
  exact ret.2.1 _ _ hv5 rfl rfl (zd tX0_setMark 32 rfl)
noncomputable def vsX0_markQuarter : List Cond := .code yX0_markQuarter cX0_markQuarter 8 none :: zbig
abbrev rmX0_markQuarter : Room := { frames := 1, cells := 0, slots := 0, locals := 25 }
theorem pX0_markQuarter : yX0_markQuarter.cls = RX0 ∧ yX0_markQuarter.cls ≠ "java/lang/invoke/MethodHandle" ∧ yX0_markQuarter.cls ≠ "java/lang/invoke/VarHandle" ∧ (parseMethodDescriptor yX0_markQuarter.desc).map (fun d => d.parameters.length) = some 1 := by decide +kernel
set_option maxRecDepth 100000 in
set_option maxHeartbeats 4000000 in
theorem jX0_markQuarter_J138 {E : zE} (C : zC E 137 cX0_markQuarter RX0 vsX0_markQuarter) (hN : zEN E = 8) (ho : zEo E = 0) (hz : zEz E = False) (hRm : zER E = rmX0_markQuarter) (rc : zHp → Int → Int → Int → Option (zHp × (Int))) (res : (zHp × (Int))) (v : zHp) (x1 : Int) (x2 : Int) (x3 : Int) (s1 : Int) (s2 : Int) (s3 : Int) (K1 : ∀ (w : zHp) (q : Int), res = (w, q) → zV 0 137 w → True → zX E 0 0 137 w 147 [none, none, none, none, none, none, none, none] []) (hrc0 : True) (h : fX0_markQuarter_J138 rc v x1 x2 x3 s1 s2 s3 = some res) (hv : zV 0 137 v) (Rx1 : zR x1) (Rx2 : zR x2) (Rx3 : zR x3) (Rs1 : zR s1) (Rs2 : zR s2) (Rs3 : zR s3) (hrc : ∀ (v : zHp) (z3 : Int), rc v x1 x2 z3 = some res → zV 0 137 v → zR z3 → zX E 0 0 137 v 16 [some (zr 125), some (zi x1), some (zi x2), some (zi z3), none, none, none, none] []): zX E 0 0 137 v 138 [some (zr 125), some (zi x1), some (zi x2), some (zi x3), none, none, none, none] [zi s3, zi s2, zi s1, zr 125] := by
  unfold fX0_markQuarter_J138 at h
  obtain ⟨v13, r14, cv13, h⟩ := zcl_some h
  refine zc_V C ho hz hRm (qX0_setMark _ _ _ _ Rs1 Rs2 Rs3 hv cv13) (lg_125 ho) (by decide) rfl (zgV zwd_792 zwd_794 zws_21 zwd_11 zwd_795) rfl pX0_setMark rfl ⟨rfl, rfl⟩ ⟨Nat.le_of_ble_eq_true rfl, Nat.le_of_ble_eq_true rfl⟩ [] rfl (Nat.le_of_ble_eq_true rfl) (zd tX0_markQuarter 80 rfl) [] rfl (fun p15 => ?_)
  obtain ⟨t16, et16, Rt16, h⟩ := zn_some h
  refine z_iincE C (zd tX0_markQuarter 81 rfl) (by rw [hN]; decide) rfl et16 ?_
  refine z_goto (tgt := 16) C (zd tX0_markQuarter 82 rfl) (by decide) ?_
  refine z_sub (lo' := [some (zr 125), some (zi x1), some (zi x2), some (zi t16), none, none, none, none]) (zsub_s (zsub_s (zsub_s (zsub_s (zsub_n (zsub_n (zsub_n (zsub_n zsub_0)))))))) ?_
  exact hrc v13 t16 h p15 Rt16
set_option maxRecDepth 100000 in
set_option maxHeartbeats 4000000 in
theorem jX0_markQuarter_J117 {E : zE} (C : zC E 137 cX0_markQuarter RX0 vsX0_markQuarter) (hN : zEN E = 8) (ho : zEo E = 0) (hz : zEz E = False) (hRm : zER E = rmX0_markQuarter) (rc : zHp → Int → Int → Int → Option (zHp × (Int))) (res : (zHp × (Int))) (v : zHp) (x1 : Int) (x2 : Int) (x3 : Int) (x4 : Int) (x6 : Int) (s0 : Int) (K1 : ∀ (w : zHp) (q : Int), res = (w, q) → zV 0 137 w → True → zX E 0 0 137 w 147 [none, none, none, none, none, none, none, none] []) (hrc0 : True) (h : fX0_markQuarter_J117 rc v x1 x2 x3 x4 x6 s0 = some res) (hv : zV 0 137 v) (Rx1 : zR x1) (Rx2 : zR x2) (Rx3 : zR x3) (Rx4 : zR x4) (Rx6 : zR x6) (Rs0 : zR s0) (hrc : ∀ (v : zHp) (z3 : Int), rc v x1 x2 z3 = some res → zV 0 137 v → zR z3 → zX E 0 0 137 v 16 [some (zr 125), some (zi x1), some (zi x2), some (zi z3), none, none, none, none] []): zX E 0 0 137 v 117 [some (zr 125), some (zi x1), some (zi x2), some (zi x3), some (zi x4), none, some (zi x6), none] [zi s0] := by
  unfold fX0_markQuarter_J117 at h
  refine z_istore C (zd tX0_markQuarter 68 rfl) (by rw [hN]; decide) ?_
  refine z_aload_n C (zd tX0_markQuarter 69 rfl) rfl ?_
  refine z_iload_n C (zd tX0_markQuarter 70 rfl) rfl ?_
  refine z_iload_n C (zd tX0_markQuarter 71 rfl) rfl ?_
  refine z_iload C (zd tX0_markQuarter 72 rfl) rfl ?_
  refine z_iload C (zd tX0_markQuarter 73 rfl) rfl ?_
  refine z_icmp_lt (tgt := 136) C Rx6 Rx4 (zd tX0_markQuarter 74 rfl) (by decide) h (fun h => ?_) (fun h => ?_)
  · refine z_iload C (zd tX0_markQuarter 79 rfl) rfl ?_
    refine z_sub (lo' := [some (zr 125), some (zi x1), some (zi x2), some (zi x3), none, none, none, none]) (zsub_s (zsub_s (zsub_s (zsub_s (zsub_n (zsub_n (zsub_n (zsub_n zsub_0)))))))) ?_
    exact jX0_markQuarter_J138 C hN ho hz hRm _ _ v x1 x2 x3 x1 x3 s0 K1 trivial h hv Rx1 Rx2 Rx3 Rx1 Rx3 Rs0 hrc
  · refine z_iload C (zd tX0_markQuarter 75 rfl) rfl ?_
    refine z_iconst C (zd tX0_markQuarter 76 rfl) ?_
    refine z_ior C (zd tX0_markQuarter 77 rfl) ?_
    refine z_goto (tgt := 138) C (zd tX0_markQuarter 78 rfl) (by decide) ?_
    refine z_sub (lo' := [some (zr 125), some (zi x1), some (zi x2), some (zi x3), none, none, none, none]) (zsub_s (zsub_s (zsub_s (zsub_s (zsub_n (zsub_n (zsub_n (zsub_n zsub_0)))))))) ?_
    exact jX0_markQuarter_J138 C hN ho hz hRm _ _ v x1 x2 x3 x1 x3 (zor s0 2) K1 trivial h hv Rx1 Rx2 Rx3 Rx1 Rx3 (zR_or _ _) hrc
set_option maxRecDepth 100000 in
set_option maxHeartbeats 4000000 in
theorem jX0_markQuarter_J90 {E : zE} (C : zC E 137 cX0_markQuarter RX0 vsX0_markQuarter) (hN : zEN E = 8) (ho : zEo E = 0) (hz : zEz E = False) (hRm : zER E = rmX0_markQuarter) (rc : zHp → Int → Int → Int → Option (zHp × (Int))) (res : (zHp × (Int))) (v : zHp) (x1 : Int) (x2 : Int) (x3 : Int) (x4 : Int) (s0 : Int) (K1 : ∀ (w : zHp) (q : Int), res = (w, q) → zV 0 137 w → True → zX E 0 0 137 w 147 [none, none, none, none, none, none, none, none] []) (hrc0 : True) (h : fX0_markQuarter_J90 rc v x1 x2 x3 x4 s0 = some res) (hv : zV 0 137 v) (Rx1 : zR x1) (Rx2 : zR x2) (Rx3 : zR x3) (Rx4 : zR x4) (Rs0 : zR s0) (hrc : ∀ (v : zHp) (z3 : Int), rc v x1 x2 z3 = some res → zV 0 137 v → zR z3 → zX E 0 0 137 v 16 [some (zr 125), some (zi x1), some (zi x2), some (zi z3), none, none, none, none] []): zX E 0 0 137 v 90 [some (zr 125), some (zi x1), some (zi x2), some (zi x3), some (zi x4), none, none, none] [zi s0] := by
  unfold fX0_markQuarter_J90 at h
  refine z_istore C (zd tX0_markQuarter 54 rfl) (by rw [hN]; decide) ?_
  refine z_aload_n C (zd tX0_markQuarter 55 rfl) rfl ?_
  refine gl_0_6 (t := 135) C (lg_125 ho) zic_0 (zm zwd_378) (vl_0_6 ho hv (lg_125 ho)) (zd tX0_markQuarter 56 rfl) ?_
  refine z_iload_n C (zd tX0_markQuarter 57 rfl) rfl ?_
  refine z_iload C (zd tX0_markQuarter 58 rfl) rfl ?_
  refine z_iload C (zd tX0_markQuarter 59 rfl) rfl ?_
  refine z_max C hRm Rx4 Rs0 ⟨(zm zwd_791), (zm zwd_712), (zm zwd_14), (zm zwd_713)⟩ ⟨Nat.le_of_ble_eq_true rfl, Nat.le_of_ble_eq_true rfl, Nat.zero_le _, Nat.zero_le _⟩ (zd tX0_markQuarter 60 rfl) ?_
  obtain ⟨q11, h⟩ := zck_some h
  obtain ⟨v12, ev12, h⟩ := zb_some h
  have hv12 : zV 0 137 v12 := by rw [ev12]; exact hv.st (zR_max Rx4 Rs0) (lg_135 ho).1 (Or.inr rfl)
  refine za_iast C (lg_135 ho) rfl (by decide) q11 ev12 (zd tX0_markQuarter 61 rfl) ?_
  refine z_iload C (zd tX0_markQuarter 62 rfl) rfl ?_
  refine z_iload C (zd tX0_markQuarter 63 rfl) rfl ?_
  refine z_icmp_lt (tgt := 116) C Rx4 Rs0 (zd tX0_markQuarter 64 rfl) (by decide) h (fun h => ?_) (fun h => ?_)
  · refine z_iconst C (zd tX0_markQuarter 67 rfl) ?_
    refine z_sub (lo' := [some (zr 125), some (zi x1), some (zi x2), some (zi x3), some (zi x4), none, some (zi s0), none]) (zsub_s (zsub_s (zsub_s (zsub_s (zsub_s (zsub_n (zsub_s (zsub_n zsub_0)))))))) ?_
    exact jX0_markQuarter_J117 C hN ho hz hRm _ _ v12 x1 x2 x3 x4 s0 0 K1 trivial h hv12 Rx1 Rx2 Rx3 Rx4 Rs0 (zR_c 0 rfl) hrc
  · refine z_iconst C (zd tX0_markQuarter 65 rfl) ?_
    refine z_goto (tgt := 117) C (zd tX0_markQuarter 66 rfl) (by decide) ?_
    refine z_sub (lo' := [some (zr 125), some (zi x1), some (zi x2), some (zi x3), some (zi x4), none, some (zi s0), none]) (zsub_s (zsub_s (zsub_s (zsub_s (zsub_s (zsub_n (zsub_s (zsub_n zsub_0)))))))) ?_
    exact jX0_markQuarter_J117 C hN ho hz hRm _ _ v12 x1 x2 x3 x4 s0 1 K1 trivial h hv12 Rx1 Rx2 Rx3 Rx4 Rs0 (zR_c 1 rfl) hrc
set_option maxRecDepth 100000 in
set_option maxHeartbeats 4000000 in
theorem bX0_markQuarter_L16 {E : zE} (C : zC E 137 cX0_markQuarter RX0 vsX0_markQuarter) (hN : zEN E = 8) (ho : zEo E = 0) (hz : zEz E = False) (hRm : zER E = rmX0_markQuarter) : ∀ (fu : Nat) (v : zHp) (x1 : Int) (x2 : Int) (x3 : Int) (res : (zHp × (Int))), fX0_markQuarter_L16 fu v x1 x2 x3 = some res → zV 0 137 v → zR x1 → zR x2 → zR x3 → (∀ (w : zHp) (q : Int), res = (w, q) → zV 0 137 w → True → zX E 0 0 137 w 147 [none, none, none, none, none, none, none, none] []) → zX E 0 0 137 v 16 [some (zr 125), some (zi x1), some (zi x2), some (zi x3), none, none, none, none] [] := by
  intro fu
  induction fu with
  | zero =>
    intro v _ _ _ res h
    cases h
  | succ fu ih =>
    intro v x1 x2 x3 res h hv Rx1 Rx2 Rx3 K1
    rw [fX0_markQuarter_L16.eq_2] at h
    refine z_iload_n C (zd tX0_markQuarter 10 rfl) rfl ?_
    refine z_iload_n C (zd tX0_markQuarter 11 rfl) rfl ?_
    refine z_icmp_gt (tgt := 147) C Rx3 Rx2 (zd tX0_markQuarter 12 rfl) (by decide) h (fun h => ?_) (fun h => ?_)
    · refine z_sub (lo' := [none, none, none, none, none, none, none, none]) (zsub_n (zsub_n (zsub_n (zsub_n (zsub_n (zsub_n (zsub_n (zsub_n zsub_0)))))))) ?_
      exact K1 _ _ (Option.some.inj h).symm hv trivial
    · refine z_aload_n C (zd tX0_markQuarter 13 rfl) rfl ?_
      refine gl_0_1 (t := 130) C (lg_125 ho) zic_0 (zm zwd_373) (vl_0_1 ho hv (lg_125 ho)) (zd tX0_markQuarter 14 rfl) ?_
      refine z_iload_n C (zd tX0_markQuarter 15 rfl) rfl ?_
      obtain ⟨q2, h⟩ := zck_some h
      refine za_iald C (lg_130 ho) rfl (by decide) q2 (zd tX0_markQuarter 16 rfl) ?_
      refine z_aload_n C (zd tX0_markQuarter 17 rfl) rfl ?_
      refine gl_0_3 (t := 132) C (lg_125 ho) zic_0 (zm zwd_375) (vl_0_3 ho hv (lg_125 ho)) (zd tX0_markQuarter 18 rfl) ?_
      refine z_iload_n C (zd tX0_markQuarter 19 rfl) rfl ?_
      obtain ⟨q3, h⟩ := zck_some h
      refine za_iald C (lg_132 ho) rfl (by decide) q3 (zd tX0_markQuarter 20 rfl) ?_
      refine z_max C hRm (hv.1 _ _) (hv.1 _ _) ⟨(zm zwd_791), (zm zwd_712), (zm zwd_14), (zm zwd_713)⟩ ⟨Nat.le_of_ble_eq_true rfl, Nat.le_of_ble_eq_true rfl, Nat.zero_le _, Nat.zero_le _⟩ (zd tX0_markQuarter 21 rfl) ?_
      refine z_aload_n C (zd tX0_markQuarter 22 rfl) rfl ?_
      refine gl_0_6 (t := 135) C (lg_125 ho) zic_0 (zm zwd_378) (vl_0_6 ho hv (lg_125 ho)) (zd tX0_markQuarter 23 rfl) ?_
      refine z_iload_n C (zd tX0_markQuarter 24 rfl) rfl ?_
      refine z_iconst C (zd tX0_markQuarter 25 rfl) ?_
      refine z_iadd C (zd tX0_markQuarter 26 rfl) ?_
      refine z_aload_n C (zd tX0_markQuarter 27 rfl) rfl ?_
      refine gf_0_8 C (lg_125 ho) zic_0 (zm zwd_380) (zd tX0_markQuarter 28 rfl) ?_
      obtain ⟨t4, et4, Rt4, h⟩ := zn_some h
      refine z_n1 (congrArg zI et4.symm) ?_
      refine z_min C hRm Rt4 (hv.1 _ _) ⟨(zm zwd_790), (zm zwd_457), (zm zwd_14), (zm zwd_458)⟩ ⟨Nat.le_of_ble_eq_true rfl, Nat.le_of_ble_eq_true rfl, Nat.zero_le _, Nat.zero_le _⟩ (zd tX0_markQuarter 29 rfl) ?_
      obtain ⟨q5, h⟩ := zck_some h
      refine za_iald C (lg_135 ho) rfl (by decide) q5 (zd tX0_markQuarter 30 rfl) ?_
      refine z_iadd C (zd tX0_markQuarter 31 rfl) ?_
      obtain ⟨t6, et6, Rt6, h⟩ := zn_some h
      refine z_n0 (congrArg zI et6.symm) ?_
      refine z_istore C (zd tX0_markQuarter 32 rfl) (by rw [hN]; decide) ?_
      refine z_aload_n C (zd tX0_markQuarter 33 rfl) rfl ?_
      refine gl_0_2 (t := 131) C (lg_125 ho) zic_0 (zm zwd_374) (vl_0_2 ho hv (lg_125 ho)) (zd tX0_markQuarter 34 rfl) ?_
      refine z_iload_n C (zd tX0_markQuarter 35 rfl) rfl ?_
      obtain ⟨q7, h⟩ := zck_some h
      refine za_iald C (lg_131 ho) rfl (by decide) q7 (zd tX0_markQuarter 36 rfl) ?_
      refine z_aload_n C (zd tX0_markQuarter 37 rfl) rfl ?_
      refine gl_0_4 (t := 133) C (lg_125 ho) zic_0 (zm zwd_376) (vl_0_4 ho hv (lg_125 ho)) (zd tX0_markQuarter 38 rfl) ?_
      refine z_iload_n C (zd tX0_markQuarter 39 rfl) rfl ?_
      obtain ⟨q8, h⟩ := zck_some h
      refine za_iald C (lg_133 ho) rfl (by decide) q8 (zd tX0_markQuarter 40 rfl) ?_
      refine z_max C hRm (hv.1 _ _) (hv.1 _ _) ⟨(zm zwd_791), (zm zwd_712), (zm zwd_14), (zm zwd_713)⟩ ⟨Nat.le_of_ble_eq_true rfl, Nat.le_of_ble_eq_true rfl, Nat.zero_le _, Nat.zero_le _⟩ (zd tX0_markQuarter 41 rfl) ?_
      refine z_istore C (zd tX0_markQuarter 42 rfl) (by rw [hN]; decide) ?_
      refine z_iload C (zd tX0_markQuarter 43 rfl) rfl ?_
      refine z_iconst C (zd tX0_markQuarter 44 rfl) ?_
      refine z_icmp_ne (tgt := 81) C (zR_max (hv.1 _ _) (hv.1 _ _)) (zR_c (-1) rfl) (zd tX0_markQuarter 45 rfl) (by decide) h (fun h => ?_) (fun h => ?_)
      · refine z_iload C (zd tX0_markQuarter 48 rfl) rfl ?_
        refine z_aload_n C (zd tX0_markQuarter 49 rfl) rfl ?_
        refine gl_0_6 (t := 135) C (lg_125 ho) zic_0 (zm zwd_378) (vl_0_6 ho hv (lg_125 ho)) (zd tX0_markQuarter 50 rfl) ?_
        refine z_iload_n C (zd tX0_markQuarter 51 rfl) rfl ?_
        obtain ⟨q9, h⟩ := zck_some h
        refine za_iald C (lg_135 ho) rfl (by decide) q9 (zd tX0_markQuarter 52 rfl) ?_
        refine z_iadd C (zd tX0_markQuarter 53 rfl) ?_
        obtain ⟨t10, et10, Rt10, h⟩ := zn_some h
        refine z_nk 0 (congrArg zI et10.symm) rfl ?_
        refine z_sub (lo' := [some (zr 125), some (zi x1), some (zi x2), some (zi x3), some (zi t6), none, none, none]) (zsub_s (zsub_s (zsub_s (zsub_s (zsub_s (zsub_n (zsub_n (zsub_n zsub_0)))))))) ?_
        exact jX0_markQuarter_J90 C hN ho hz hRm _ _ v x1 x2 x3 t6 t10 K1 trivial h hv Rx1 Rx2 Rx3 Rt6 Rt10 (fun w z3 hw hvw y3 => ih w x1 x2 z3 _ hw hvw Rx1 Rx2 y3 K1)
      · refine z_iconst C (zd tX0_markQuarter 46 rfl) ?_
        refine z_goto (tgt := 90) C (zd tX0_markQuarter 47 rfl) (by decide) ?_
        refine z_sub (lo' := [some (zr 125), some (zi x1), some (zi x2), some (zi x3), some (zi t6), none, none, none]) (zsub_s (zsub_s (zsub_s (zsub_s (zsub_s (zsub_n (zsub_n (zsub_n zsub_0)))))))) ?_
        exact jX0_markQuarter_J90 C hN ho hz hRm _ _ v x1 x2 x3 t6 (-1) K1 trivial h hv Rx1 Rx2 Rx3 Rt6 (zR_c (-1) rfl) (fun w z3 hw hvw y3 => ih w x1 x2 z3 _ hw hvw Rx1 Rx2 y3 K1)
set_option maxRecDepth 100000 in
set_option maxHeartbeats 4000000 in
theorem qX0_markQuarter (l : Launch) (D : va_G) (ids : Nat → ClassId) (b : Nat) {x1 : Int} (Rx1 : zR x1) {v v' : zHp} {r' : Int} (hv : zV 0 137 v) (h : fX0_markQuarter v x1 = some (v', r')) : zCT l yX0_markQuarter vsX0_markQuarter rmX0_markQuarter D ids b 0 False 137 [zr 125, zi x1] v 137 (zV 0 137 v') none v' 0 0 := by
  refine zMet (own := RX0) (by decide +kernel) (show vsX0_markQuarter = _ from rfl) (Nat.le_of_ble_eq_true rfl) rfl ?_
  intro E hl hRm hD hids hb ho hz hN C hname ret
  subst hl hD hids hb
  unfold fX0_markQuarter at h
  refine z_iload_n C (zd tX0_markQuarter 0 rfl) rfl ?_
  refine z_aload_n C (zd tX0_markQuarter 1 rfl) rfl ?_
  refine gf_0_8 C (lg_125 ho) zic_0 (zm zwd_380) (zd tX0_markQuarter 2 rfl) ?_
  refine z_min C hRm Rx1 (hv.1 _ _) ⟨(zm zwd_790), (zm zwd_457), (zm zwd_14), (zm zwd_458)⟩ ⟨Nat.le_of_ble_eq_true rfl, Nat.le_of_ble_eq_true rfl, Nat.zero_le _, Nat.zero_le _⟩ (zd tX0_markQuarter 3 rfl) ?_
  refine z_istore_n C (zd tX0_markQuarter 4 rfl) (by rw [hN]; decide) ?_
  refine z_aload_n C (zd tX0_markQuarter 5 rfl) rfl ?_
  refine gl_0_5 (t := 134) C (lg_125 ho) zic_0 (zm zwd_377) (vl_0_5 ho hv (lg_125 ho)) (zd tX0_markQuarter 6 rfl) ?_
  refine z_iload_n C (zd tX0_markQuarter 7 rfl) rfl ?_
  obtain ⟨q1, h⟩ := zck_some h
  refine za_iald C (lg_134 ho) rfl (by decide) q1 (zd tX0_markQuarter 8 rfl) ?_
  refine z_istore_n C (zd tX0_markQuarter 9 rfl) (by rw [hN]; decide) ?_
  refine z_sub (lo' := [some (zr 125), some (zi x1), some (zi (min x1 (v 125 8))), some (zi (v 134 x1)), none, none, none, none]) (zsub_s (zsub_s (zsub_s (zsub_s (zsub_n (zsub_n (zsub_n (zsub_n zsub_0)))))))) ?_
  obtain ⟨v17, w18, lv17, h⟩ := zl_some h
  refine bX0_markQuarter_L16 C hN ho hz hRm zFU v x1 (min x1 (v 125 8)) (v 134 x1) _ lv17 hv Rx1 (zR_min Rx1 (hv.1 _ _)) (hv.1 _ _) (fun w1 q1 e1 hv17 Rw18 => ?_)
  obtain ⟨rfl, rfl⟩ := zpp e1
  obtain ⟨rfl, rfl⟩ := zpi h
  exact ret.2.1 _ _ hv17 rfl rfl (zd tX0_markQuarter 83 rfl)
noncomputable def vsX7_mostOf : List Cond := .code yX7_mostOf cX7_mostOf 6 (some .int) :: zbig
abbrev rmX7_mostOf : Room := { frames := 1, cells := 0, slots := 0, locals := 21 }
theorem pX7_mostOf : yX7_mostOf.cls = RX7 ∧ yX7_mostOf.cls ≠ "java/lang/invoke/MethodHandle" ∧ yX7_mostOf.cls ≠ "java/lang/invoke/VarHandle" ∧ (parseMethodDescriptor yX7_mostOf.desc).map (fun d => d.parameters.length) = some 3 := by decide +kernel
set_option maxRecDepth 100000 in
set_option maxHeartbeats 4000000 in
theorem bX7_mostOf_L6 {E : zE} (C : zC E 137 cX7_mostOf RX7 vsX7_mostOf) (hN : zEN E = 6) (ho : zEo E = 0) (hz : zEz E = False) (hRm : zER E = rmX7_mostOf) : ∀ (fu : Nat) (v : zHp) (a0 : Nat) (x1 : Int) (x2 : Int) (x4 : Int) (x5 : Int) (res : (zHp × (Int))), fX7_mostOf_L6 fu v a0 x1 x2 x4 x5 = some res → zV 0 137 v → zG E 137 a0 7 10 → zR x1 → zR x2 → zR x4 → zR x5 → (∀ (w : zHp) (q : Int), res = (w, q) → zV 0 137 w → zR q → zX E 0 0 137 w 61 [none, none, none, none, some (zi q), none] []) → zX E 0 0 137 v 6 [some (zr a0), some (zi x1), some (zi x2), none, some (zi x4), some (zi x5)] [] := by
  intro fu
  induction fu with
  | zero =>
    intro v _ _ _ _ _ res h
    cases h
  | succ fu ih =>
    intro v a0 x1 x2 x4 x5 res h hv ga0 Rx1 Rx2 Rx4 Rx5 K1
    rw [fX7_mostOf_L6.eq_2] at h
    refine z_iload C (zd tX7_mostOf 4 rfl) rfl ?_
    refine z_aload_n C (zd tX7_mostOf 5 rfl) rfl ?_
    refine gf_7_2 C ga0 zic_7 (zm zwd_157) (zd tX7_mostOf 6 rfl) ?_
    refine z_icmp_ge (tgt := 61) C Rx5 (hv.1 _ _) (zd tX7_mostOf 7 rfl) (by decide) h (fun h => ?_) (fun h => ?_)
    · refine z_sub (lo' := [none, none, none, none, some (zi x4), none]) (zsub_n (zsub_n (zsub_n (zsub_n (zsub_s (zsub_n zsub_0)))))) ?_
      exact K1 _ _ (Option.some.inj h).symm hv Rx4
    · refine z_iload_n C (zd tX7_mostOf 8 rfl) rfl ?_
      refine z_iload C (zd tX7_mostOf 9 rfl) rfl ?_
      refine z_ishr C (zd tX7_mostOf 10 rfl) ?_
      refine z_iconst C (zd tX7_mostOf 11 rfl) ?_
      refine z_iand C (zd tX7_mostOf 12 rfl) ?_
      refine z_if_eq (tgt := 55) C (zR_and _ _) (zd tX7_mostOf 13 rfl) (by decide) h (fun h => ?_) (fun h => ?_)
      · obtain ⟨t1, et1, Rt1, h⟩ := zn_some h
        refine z_iincE C (zd tX7_mostOf 29 rfl) (by rw [hN]; decide) rfl et1 ?_
        refine z_goto (tgt := 6) C (zd tX7_mostOf 30 rfl) (by decide) ?_
        refine z_sub (lo' := [some (zr a0), some (zi x1), some (zi x2), none, some (zi x4), some (zi t1)]) (zsub_s (zsub_s (zsub_s (zsub_n (zsub_s (zsub_s zsub_0)))))) ?_
        exact ih v a0 x1 x2 x4 t1 _ h hv ga0 Rx1 Rx2 Rx4 Rt1 K1
      · refine z_aload_n C (zd tX7_mostOf 14 rfl) rfl ?_
        refine gl_7_1 C ga0 zic_7 (zm zwd_153) (vl_7_1 ho hv ga0) (zd tX7_mostOf 15 rfl) ?_
        refine z_iload C (zd tX7_mostOf 16 rfl) rfl ?_
        obtain ⟨q2, h⟩ := zck_some h
        obtain ⟨u3, eu3, h⟩ := zb_some h
        have gu3 := ge_Premium ho (lk_7_1 ho ga0) q2 eu3
        refine ra_Premium C ho hv (lk_7_1 ho ga0) q2 eu3 (zd tX7_mostOf 17 rfl) ?_
        refine gf_5_2 C gu3 zic_5 (zm zwd_118) (zd tX7_mostOf 18 rfl) ?_
        refine z_iload_n C (zd tX7_mostOf 19 rfl) rfl ?_
        refine z_icmp_ne (tgt := 55) C (hv.1 _ _) Rx2 (zd tX7_mostOf 20 rfl) (by decide) h (fun h => ?_) (fun h => ?_)
        · obtain ⟨t4, et4, Rt4, h⟩ := zn_some h
          refine z_iincE C (zd tX7_mostOf 29 rfl) (by rw [hN]; decide) rfl et4 ?_
          refine z_goto (tgt := 6) C (zd tX7_mostOf 30 rfl) (by decide) ?_
          refine z_sub (lo' := [some (zr a0), some (zi x1), some (zi x2), none, some (zi x4), some (zi t4)]) (zsub_s (zsub_s (zsub_s (zsub_n (zsub_s (zsub_s zsub_0)))))) ?_
          exact ih v a0 x1 x2 x4 t4 _ h hv ga0 Rx1 Rx2 Rx4 Rt4 K1
        · refine z_iload C (zd tX7_mostOf 21 rfl) rfl ?_
          refine z_aload_n C (zd tX7_mostOf 22 rfl) rfl ?_
          refine gl_7_1 C ga0 zic_7 (zm zwd_153) (vl_7_1 ho hv ga0) (zd tX7_mostOf 23 rfl) ?_
          refine z_iload C (zd tX7_mostOf 24 rfl) rfl ?_
          obtain ⟨q5, h⟩ := zck_some h
          obtain ⟨u6, eu6, h⟩ := zb_some h
          have gu6 := ge_Premium ho (lk_7_1 ho ga0) q5 eu6
          refine ra_Premium C ho hv (lk_7_1 ho ga0) q5 eu6 (zd tX7_mostOf 25 rfl) ?_
          refine gf_5_1 C gu6 zic_5 (zm zwd_114) (zd tX7_mostOf 26 rfl) ?_
          refine z_max C hRm Rx4 (hv.1 _ _) ⟨(zm zwd_776), (zm zwd_712), (zm zwd_14), (zm zwd_713)⟩ ⟨Nat.le_of_ble_eq_true rfl, Nat.le_of_ble_eq_true rfl, Nat.zero_le _, Nat.zero_le _⟩ (zd tX7_mostOf 27 rfl) ?_
          refine z_istore C (zd tX7_mostOf 28 rfl) (by rw [hN]; decide) ?_
          obtain ⟨t7, et7, Rt7, h⟩ := zn_some h
          refine z_iincE C (zd tX7_mostOf 29 rfl) (by rw [hN]; decide) rfl et7 ?_
          refine z_goto (tgt := 6) C (zd tX7_mostOf 30 rfl) (by decide) ?_
          refine z_sub (lo' := [some (zr a0), some (zi x1), some (zi x2), none, some (zi (max x4 (v u6 1))), some (zi t7)]) (zsub_s (zsub_s (zsub_s (zsub_n (zsub_s (zsub_s zsub_0)))))) ?_
          exact ih v a0 x1 x2 (max x4 (v u6 1)) t7 _ h hv ga0 Rx1 Rx2 (zR_max Rx4 (hv.1 _ _)) Rt7 K1
set_option maxRecDepth 100000 in
set_option maxHeartbeats 4000000 in
theorem qX7_mostOf (l : Launch) (D : va_G) (ids : Nat → ClassId) (b : Nat) {a0 : Nat} (k0 : zK a0 = (7, 10)) {x1 : Int} (Rx1 : zR x1) {x2 : Int} (Rx2 : zR x2) {x3 : Int} (Rx3 : zR x3) {v v' : zHp} {r' : Int} (hv : zV 0 137 v) (h : fX7_mostOf v a0 x1 x2 x3 = some (v', r')) : zCT l yX7_mostOf vsX7_mostOf rmX7_mostOf D ids b 0 False 137 [zr a0, zi x1, zi x2, zi x3] v 137 (zV 0 137 v' ∧ zR r') (some (zi r')) v' 0 0 := by
  refine zMet (own := RX7) (by decide +kernel) (show vsX7_mostOf = _ from rfl) (Nat.le_of_ble_eq_true rfl) rfl ?_
  intro E hl hRm hD hids hb ho hz hN C hname ret
  subst hl hD hids hb
  have ga0 := kg_7 ho k0
  unfold fX7_mostOf at h
  refine z_iload_n C (zd tX7_mostOf 0 rfl) rfl ?_
  refine z_istore C (zd tX7_mostOf 1 rfl) (by rw [hN]; decide) ?_
  refine z_iconst C (zd tX7_mostOf 2 rfl) ?_
  refine z_istore C (zd tX7_mostOf 3 rfl) (by rw [hN]; decide) ?_
  refine z_sub (lo' := [some (zr a0), some (zi x1), some (zi x2), none, some (zi x3), some (zi 0)]) (zsub_s (zsub_s (zsub_s (zsub_n (zsub_s (zsub_s zsub_0)))))) ?_
  obtain ⟨v8, w9, lv8, h⟩ := zl_some h
  refine bX7_mostOf_L6 C hN ho hz hRm zFU v a0 x1 x2 x3 0 _ lv8 hv ga0 Rx1 Rx2 Rx3 (zR_c 0 rfl) (fun w1 q1 e1 hv8 Rw9 => ?_)
  obtain ⟨rfl, rfl⟩ := zpp e1
  refine z_iload C (zd tX7_mostOf 31 rfl) rfl ?_
  obtain ⟨rfl, rfl⟩ := zpi h
  exact ret.1 _ _ _ _ ⟨hv8, Rw9⟩ rfl rfl rfl (zd tX7_mostOf 32 rfl)
noncomputable def vsX0_measureQuarters : List Cond := .code yX0_measureQuarters cX0_measureQuarters 4 none :: zbig
abbrev rmX0_measureQuarters : Room := { frames := 2, cells := 0, slots := 0, locals := 46 }
theorem pX0_measureQuarters : yX0_measureQuarters.cls = RX0 ∧ yX0_measureQuarters.cls ≠ "java/lang/invoke/MethodHandle" ∧ yX0_measureQuarters.cls ≠ "java/lang/invoke/VarHandle" ∧ (parseMethodDescriptor yX0_measureQuarters.desc).map (fun d => d.parameters.length) = some 1 := by decide +kernel
set_option maxRecDepth 100000 in
set_option maxHeartbeats 4000000 in
theorem bX0_measureQuarters_L4 {E : zE} (C : zC E 137 cX0_measureQuarters RX0 vsX0_measureQuarters) (hN : zEN E = 4) (ho : zEo E = 0) (hz : zEz E = False) (hRm : zER E = rmX0_measureQuarters) : ∀ (fu : Nat) (v : zHp) (a1 : Nat) (x2 : Int) (x3 : Int) (res : (zHp × (Int))), fX0_measureQuarters_L4 fu v a1 x2 x3 = some res → zV 0 137 v → zG E 137 a1 7 10 → zR x2 → zR x3 → (∀ (w : zHp) (q : Int), res = (w, q) → zV 0 137 w → True → zX E 0 0 137 w 101 [none, none, none, none] []) → zX E 0 0 137 v 4 [some (zr 125), some (zr a1), some (zi x2), some (zi x3)] [] := by
  intro fu
  induction fu with
  | zero =>
    intro v _ _ _ res h
    cases h
  | succ fu ih =>
    intro v a1 x2 x3 res h hv ga1 Rx2 Rx3 K1
    rw [fX0_measureQuarters_L4.eq_2] at h
    refine z_iload_n C (zd tX0_measureQuarters 4 rfl) rfl ?_
    refine z_aload_n C (zd tX0_measureQuarters 5 rfl) rfl ?_
    refine gl_0_0 (t := 126) C (lg_125 ho) zic_0 (zm zwd_371) (vl_0_0 ho hv (lg_125 ho)) (zd tX0_measureQuarters 6 rfl) ?_
    refine gf_10_3 C (lg_126 ho) zic_10 (zm zwd_357) (zd tX0_measureQuarters 7 rfl) ?_
    refine z_icmp_ge (tgt := 101) C Rx3 (hv.1 _ _) (zd tX0_measureQuarters 8 rfl) (by decide) h (fun h => ?_) (fun h => ?_)
    · refine z_sub (lo' := [none, none, none, none]) (zsub_n (zsub_n (zsub_n (zsub_n zsub_0)))) ?_
      exact K1 _ _ (Option.some.inj h).symm hv trivial
    · refine z_aload_n C (zd tX0_measureQuarters 9 rfl) rfl ?_
      refine gl_0_1 (t := 130) C (lg_125 ho) zic_0 (zm zwd_373) (vl_0_1 ho hv (lg_125 ho)) (zd tX0_measureQuarters 10 rfl) ?_
      refine z_iload_n C (zd tX0_measureQuarters 11 rfl) rfl ?_
      refine z_aload_n C (zd tX0_measureQuarters 12 rfl) rfl ?_
      refine z_aload_n C (zd tX0_measureQuarters 13 rfl) rfl ?_
      refine gl_0_0 (t := 126) C (lg_125 ho) zic_0 (zm zwd_371) (vl_0_0 ho hv (lg_125 ho)) (zd tX0_measureQuarters 14 rfl) ?_
      refine gl_10_1 (t := 128) C (lg_126 ho) zic_10 (zm zwd_351) (vl_10_1 ho hv (lg_126 ho)) (zd tX0_measureQuarters 15 rfl) ?_
      refine z_iload_n C (zd tX0_measureQuarters 16 rfl) rfl ?_
      obtain ⟨q1, h⟩ := zck_some h
      refine za_iald C (lg_128 ho) rfl (by decide) q1 (zd tX0_measureQuarters 17 rfl) ?_
      refine z_iconst C (zd tX0_measureQuarters 18 rfl) ?_
      refine z_iconst C (zd tX0_measureQuarters 19 rfl) ?_
      obtain ⟨v2, r3, cv2, h⟩ := zcl_some h
      refine zc_V C ho hz hRm (qX7_mostOf _ _ _ _ ga1.1 (hv.1 _ _) (zR_c 1 rfl) (zR_c 0 rfl) hv cv2) ga1 (by decide) rfl (zgV zwd_778 zwd_779 zwd_780 zwd_4 zwd_781) rfl pX7_mostOf rfl ⟨rfl, rfl⟩ ⟨Nat.le_of_ble_eq_true rfl, Nat.le_of_ble_eq_true rfl⟩ [zi x3, zr 130] rfl (Nat.le_of_ble_eq_true rfl) (zd tX0_measureQuarters 20 rfl) [zi r3, zi x3, zr 130] rfl (fun p4 => ?_)
      obtain ⟨q5, h⟩ := zck_some h
      obtain ⟨v6, ev6, h⟩ := zb_some h
      have hv6 : zV 0 137 v6 := by rw [ev6]; exact p4.1.st p4.2 (lg_130 ho).1 (Or.inr rfl)
      refine za_iast C (lg_130 ho) rfl (by decide) q5 ev6 (zd tX0_measureQuarters 21 rfl) ?_
      refine z_aload_n C (zd tX0_measureQuarters 22 rfl) rfl ?_
      refine gl_0_2 (t := 131) C (lg_125 ho) zic_0 (zm zwd_374) (vl_0_2 ho hv6 (lg_125 ho)) (zd tX0_measureQuarters 23 rfl) ?_
      refine z_iload_n C (zd tX0_measureQuarters 24 rfl) rfl ?_
      refine z_aload_n C (zd tX0_measureQuarters 25 rfl) rfl ?_
      refine z_aload_n C (zd tX0_measureQuarters 26 rfl) rfl ?_
      refine gl_0_0 (t := 126) C (lg_125 ho) zic_0 (zm zwd_371) (vl_0_0 ho hv6 (lg_125 ho)) (zd tX0_measureQuarters 27 rfl) ?_
      refine gl_10_1 (t := 128) C (lg_126 ho) zic_10 (zm zwd_351) (vl_10_1 ho hv6 (lg_126 ho)) (zd tX0_measureQuarters 28 rfl) ?_
      refine z_iload_n C (zd tX0_measureQuarters 29 rfl) rfl ?_
      obtain ⟨q7, h⟩ := zck_some h
      refine za_iald C (lg_128 ho) rfl (by decide) q7 (zd tX0_measureQuarters 30 rfl) ?_
      refine z_iconst C (zd tX0_measureQuarters 31 rfl) ?_
      refine z_iconst C (zd tX0_measureQuarters 32 rfl) ?_
      obtain ⟨v8, r9, cv8, h⟩ := zcl_some h
      refine zc_V C ho hz hRm (qX7_mostOf _ _ _ _ ga1.1 (hv6.1 _ _) (zR_c 0 rfl) (zR_c (-1) rfl) hv6 cv8) ga1 (by decide) rfl (zgV zwd_778 zwd_779 zwd_780 zwd_4 zwd_781) rfl pX7_mostOf rfl ⟨rfl, rfl⟩ ⟨Nat.le_of_ble_eq_true rfl, Nat.le_of_ble_eq_true rfl⟩ [zi x3, zr 131] rfl (Nat.le_of_ble_eq_true rfl) (zd tX0_measureQuarters 33 rfl) [zi r9, zi x3, zr 131] rfl (fun p10 => ?_)
      obtain ⟨q11, h⟩ := zck_some h
      obtain ⟨v12, ev12, h⟩ := zb_some h
      have hv12 : zV 0 137 v12 := by rw [ev12]; exact p10.1.st p10.2 (lg_131 ho).1 (Or.inr rfl)
      refine za_iast C (lg_131 ho) rfl (by decide) q11 ev12 (zd tX0_measureQuarters 34 rfl) ?_
      refine z_aload_n C (zd tX0_measureQuarters 35 rfl) rfl ?_
      refine gl_0_5 (t := 134) C (lg_125 ho) zic_0 (zm zwd_377) (vl_0_5 ho hv12 (lg_125 ho)) (zd tX0_measureQuarters 36 rfl) ?_
      refine z_iload_n C (zd tX0_measureQuarters 37 rfl) rfl ?_
      refine z_iload_n C (zd tX0_measureQuarters 38 rfl) rfl ?_
      obtain ⟨q13, h⟩ := zck_some h
      obtain ⟨v14, ev14, h⟩ := zb_some h
      have hv14 : zV 0 137 v14 := by rw [ev14]; exact hv12.st Rx2 (lg_134 ho).1 (Or.inr rfl)
      refine za_iast C (lg_134 ho) rfl (by decide) q13 ev14 (zd tX0_measureQuarters 39 rfl) ?_
      refine z_iload_n C (zd tX0_measureQuarters 40 rfl) rfl ?_
      refine z_aload_n C (zd tX0_measureQuarters 41 rfl) rfl ?_
      refine gf_0_8 C (lg_125 ho) zic_0 (zm zwd_380) (zd tX0_measureQuarters 42 rfl) ?_
      refine z_icmp_ge (tgt := 95) C Rx2 (hv14.1 _ _) (zd tX0_measureQuarters 43 rfl) (by decide) h (fun h => ?_) (fun h => ?_)
      · obtain ⟨t15, et15, Rt15, h⟩ := zn_some h
        refine z_iincE C (zd tX0_measureQuarters 57 rfl) (by rw [hN]; decide) rfl et15 ?_
        refine z_goto (tgt := 4) C (zd tX0_measureQuarters 58 rfl) (by decide) ?_
        refine z_sub (lo' := [some (zr 125), some (zr a1), some (zi x2), some (zi t15)]) (zsub_s (zsub_s (zsub_s (zsub_s zsub_0)))) ?_
        exact ih v14 a1 x2 t15 _ h hv14 ga1 Rx2 Rt15 K1
      · refine z_aload_n C (zd tX0_measureQuarters 44 rfl) rfl ?_
        refine gl_0_2 (t := 131) C (lg_125 ho) zic_0 (zm zwd_374) (vl_0_2 ho hv14 (lg_125 ho)) (zd tX0_measureQuarters 45 rfl) ?_
        refine z_iload_n C (zd tX0_measureQuarters 46 rfl) rfl ?_
        obtain ⟨q16, h⟩ := zck_some h
        refine za_iald C (lg_131 ho) rfl (by decide) q16 (zd tX0_measureQuarters 47 rfl) ?_
        refine z_iconst C (zd tX0_measureQuarters 48 rfl) ?_
        refine z_icmp_ne (tgt := 95) C (hv14.1 _ _) (zR_c (-1) rfl) (zd tX0_measureQuarters 49 rfl) (by decide) h (fun h => ?_) (fun h => ?_)
        · obtain ⟨t17, et17, Rt17, h⟩ := zn_some h
          refine z_iincE C (zd tX0_measureQuarters 57 rfl) (by rw [hN]; decide) rfl et17 ?_
          refine z_goto (tgt := 4) C (zd tX0_measureQuarters 58 rfl) (by decide) ?_
          refine z_sub (lo' := [some (zr 125), some (zr a1), some (zi x2), some (zi t17)]) (zsub_s (zsub_s (zsub_s (zsub_s zsub_0)))) ?_
          exact ih v14 a1 x2 t17 _ h hv14 ga1 Rx2 Rt17 K1
        · refine z_aload_n C (zd tX0_measureQuarters 50 rfl) rfl ?_
          refine gl_0_4 (t := 133) C (lg_125 ho) zic_0 (zm zwd_376) (vl_0_4 ho hv14 (lg_125 ho)) (zd tX0_measureQuarters 51 rfl) ?_
          refine z_iload_n C (zd tX0_measureQuarters 52 rfl) rfl ?_
          obtain ⟨q18, h⟩ := zck_some h
          refine za_iald C (lg_133 ho) rfl (by decide) q18 (zd tX0_measureQuarters 53 rfl) ?_
          refine z_iconst C (zd tX0_measureQuarters 54 rfl) ?_
          refine z_icmp_ne (tgt := 95) C (hv14.1 _ _) (zR_c (-1) rfl) (zd tX0_measureQuarters 55 rfl) (by decide) h (fun h => ?_) (fun h => ?_)
          · obtain ⟨t19, et19, Rt19, h⟩ := zn_some h
            refine z_iincE C (zd tX0_measureQuarters 57 rfl) (by rw [hN]; decide) rfl et19 ?_
            refine z_goto (tgt := 4) C (zd tX0_measureQuarters 58 rfl) (by decide) ?_
            refine z_sub (lo' := [some (zr 125), some (zr a1), some (zi x2), some (zi t19)]) (zsub_s (zsub_s (zsub_s (zsub_s zsub_0)))) ?_
            exact ih v14 a1 x2 t19 _ h hv14 ga1 Rx2 Rt19 K1
          · obtain ⟨t20, et20, Rt20, h⟩ := zn_some h
            refine z_iincE C (zd tX0_measureQuarters 56 rfl) (by rw [hN]; decide) rfl et20 ?_
            obtain ⟨t21, et21, Rt21, h⟩ := zn_some h
            refine z_iincE C (zd tX0_measureQuarters 57 rfl) (by rw [hN]; decide) rfl et21 ?_
            refine z_goto (tgt := 4) C (zd tX0_measureQuarters 58 rfl) (by decide) ?_
            refine z_sub (lo' := [some (zr 125), some (zr a1), some (zi t20), some (zi t21)]) (zsub_s (zsub_s (zsub_s (zsub_s zsub_0)))) ?_
            exact ih v14 a1 t20 t21 _ h hv14 ga1 Rt20 Rt21 K1
set_option maxRecDepth 100000 in
set_option maxHeartbeats 4000000 in
theorem qX0_measureQuarters (l : Launch) (D : va_G) (ids : Nat → ClassId) (b : Nat) {a1 : Nat} (k1 : zK a1 = (7, 10)) {v v' : zHp} {r' : Int} (hv : zV 0 137 v) (h : fX0_measureQuarters v a1 = some (v', r')) : zCT l yX0_measureQuarters vsX0_measureQuarters rmX0_measureQuarters D ids b 0 False 137 [zr 125, zr a1] v 137 (zV 0 137 v') none v' 0 0 := by
  refine zMet (own := RX0) (by decide +kernel) (show vsX0_measureQuarters = _ from rfl) (Nat.le_of_ble_eq_true rfl) rfl ?_
  intro E hl hRm hD hids hb ho hz hN C hname ret
  subst hl hD hids hb
  have ga1 := kg_7 ho k1
  unfold fX0_measureQuarters at h
  refine z_iconst C (zd tX0_measureQuarters 0 rfl) ?_
  refine z_istore_n C (zd tX0_measureQuarters 1 rfl) (by rw [hN]; decide) ?_
  refine z_iconst C (zd tX0_measureQuarters 2 rfl) ?_
  refine z_istore_n C (zd tX0_measureQuarters 3 rfl) (by rw [hN]; decide) ?_
  refine z_sub (lo' := [some (zr 125), some (zr a1), some (zi 0), some (zi 0)]) (zsub_s (zsub_s (zsub_s (zsub_s zsub_0)))) ?_
  obtain ⟨v22, w23, lv22, h⟩ := zl_some h
  refine bX0_measureQuarters_L4 C hN ho hz hRm zFU v a1 0 0 _ lv22 hv ga1 (zR_c 0 rfl) (zR_c 0 rfl) (fun w1 q1 e1 hv22 Rw23 => ?_)
  obtain ⟨rfl, rfl⟩ := zpp e1
  obtain ⟨rfl, rfl⟩ := zpi h
  exact ret.2.1 _ _ hv22 rfl rfl (zd tX0_measureQuarters 59 rfl)
noncomputable def vsX7_largestWeekBelow : List Cond := .code yX7_largestWeekBelow cX7_largestWeekBelow 5 (some .int) :: zbig
abbrev rmX7_largestWeekBelow : Room := { frames := 1, cells := 0, slots := 0, locals := 21 }
theorem pX7_largestWeekBelow : yX7_largestWeekBelow.cls = RX7 ∧ yX7_largestWeekBelow.cls ≠ "java/lang/invoke/MethodHandle" ∧ yX7_largestWeekBelow.cls ≠ "java/lang/invoke/VarHandle" ∧ (parseMethodDescriptor yX7_largestWeekBelow.desc).map (fun d => d.parameters.length) = some 2 := by decide +kernel
set_option maxRecDepth 100000 in
set_option maxHeartbeats 4000000 in
theorem bX7_largestWeekBelow_L5 {E : zE} (C : zC E 137 cX7_largestWeekBelow RX7 vsX7_largestWeekBelow) (hN : zEN E = 5) (ho : zEo E = 0) (hz : zEz E = False) (hRm : zER E = rmX7_largestWeekBelow) : ∀ (fu : Nat) (v : zHp) (a0 : Nat) (x1 : Int) (x2 : Int) (x3 : Int) (x4 : Int) (res : (zHp × (Int))), fX7_largestWeekBelow_L5 fu v a0 x1 x2 x3 x4 = some res → zV 0 137 v → zG E 137 a0 7 10 → zR x1 → zR x2 → zR x3 → zR x4 → (∀ (w : zHp) (q : Int), res = (w, q) → zV 0 137 w → zR q → zX E 0 0 137 w 72 [none, none, none, some (zi q), none] []) → zX E 0 0 137 v 5 [some (zr a0), some (zi x1), some (zi x2), some (zi x3), some (zi x4)] [] := by
  intro fu
  induction fu with
  | zero =>
    intro v _ _ _ _ _ res h
    cases h
  | succ fu ih =>
    intro v a0 x1 x2 x3 x4 res h hv ga0 Rx1 Rx2 Rx3 Rx4 K1
    rw [fX7_largestWeekBelow_L5.eq_2] at h
    refine z_iload C (zd tX7_largestWeekBelow 4 rfl) rfl ?_
    refine z_aload_n C (zd tX7_largestWeekBelow 5 rfl) rfl ?_
    refine gf_7_2 C ga0 zic_7 (zm zwd_157) (zd tX7_largestWeekBelow 6 rfl) ?_
    refine z_icmp_ge (tgt := 72) C Rx4 (hv.1 _ _) (zd tX7_largestWeekBelow 7 rfl) (by decide) h (fun h => ?_) (fun h => ?_)
    · refine z_sub (lo' := [none, none, none, some (zi x3), none]) (zsub_n (zsub_n (zsub_n (zsub_s (zsub_n zsub_0))))) ?_
      exact K1 _ _ (Option.some.inj h).symm hv Rx3
    · refine z_iload_n C (zd tX7_largestWeekBelow 8 rfl) rfl ?_
      refine z_iload C (zd tX7_largestWeekBelow 9 rfl) rfl ?_
      refine z_ishr C (zd tX7_largestWeekBelow 10 rfl) ?_
      refine z_iconst C (zd tX7_largestWeekBelow 11 rfl) ?_
      refine z_iand C (zd tX7_largestWeekBelow 12 rfl) ?_
      refine z_if_eq (tgt := 66) C (zR_and _ _) (zd tX7_largestWeekBelow 13 rfl) (by decide) h (fun h => ?_) (fun h => ?_)
      · obtain ⟨t1, et1, Rt1, h⟩ := zn_some h
        refine z_iincE C (zd tX7_largestWeekBelow 36 rfl) (by rw [hN]; decide) rfl et1 ?_
        refine z_goto (tgt := 5) C (zd tX7_largestWeekBelow 37 rfl) (by decide) ?_
        refine z_sub (lo' := [some (zr a0), some (zi x1), some (zi x2), some (zi x3), some (zi t1)]) (zsub_s (zsub_s (zsub_s (zsub_s (zsub_s zsub_0))))) ?_
        exact ih v a0 x1 x2 x3 t1 _ h hv ga0 Rx1 Rx2 Rx3 Rt1 K1
      · refine z_aload_n C (zd tX7_largestWeekBelow 14 rfl) rfl ?_
        refine gl_7_1 C ga0 zic_7 (zm zwd_153) (vl_7_1 ho hv ga0) (zd tX7_largestWeekBelow 15 rfl) ?_
        refine z_iload C (zd tX7_largestWeekBelow 16 rfl) rfl ?_
        obtain ⟨q2, h⟩ := zck_some h
        obtain ⟨u3, eu3, h⟩ := zb_some h
        have gu3 := ge_Premium ho (lk_7_1 ho ga0) q2 eu3
        refine ra_Premium C ho hv (lk_7_1 ho ga0) q2 eu3 (zd tX7_largestWeekBelow 17 rfl) ?_
        refine gf_5_0 C gu3 zic_5 (zm zwd_113) (zd tX7_largestWeekBelow 18 rfl) ?_
        refine z_iconst C (zd tX7_largestWeekBelow 19 rfl) ?_
        refine z_icmp_ne (tgt := 66) C (hv.1 _ _) (zR_c 1 rfl) (zd tX7_largestWeekBelow 20 rfl) (by decide) h (fun h => ?_) (fun h => ?_)
        · obtain ⟨t4, et4, Rt4, h⟩ := zn_some h
          refine z_iincE C (zd tX7_largestWeekBelow 36 rfl) (by rw [hN]; decide) rfl et4 ?_
          refine z_goto (tgt := 5) C (zd tX7_largestWeekBelow 37 rfl) (by decide) ?_
          refine z_sub (lo' := [some (zr a0), some (zi x1), some (zi x2), some (zi x3), some (zi t4)]) (zsub_s (zsub_s (zsub_s (zsub_s (zsub_s zsub_0))))) ?_
          exact ih v a0 x1 x2 x3 t4 _ h hv ga0 Rx1 Rx2 Rx3 Rt4 K1
        · refine z_aload_n C (zd tX7_largestWeekBelow 21 rfl) rfl ?_
          refine gl_7_1 C ga0 zic_7 (zm zwd_153) (vl_7_1 ho hv ga0) (zd tX7_largestWeekBelow 22 rfl) ?_
          refine z_iload C (zd tX7_largestWeekBelow 23 rfl) rfl ?_
          obtain ⟨q5, h⟩ := zck_some h
          obtain ⟨u6, eu6, h⟩ := zb_some h
          have gu6 := ge_Premium ho (lk_7_1 ho ga0) q5 eu6
          refine ra_Premium C ho hv (lk_7_1 ho ga0) q5 eu6 (zd tX7_largestWeekBelow 24 rfl) ?_
          refine gf_5_3 C gu6 zic_5 (zm zwd_125) (zd tX7_largestWeekBelow 25 rfl) ?_
          refine z_iload_n C (zd tX7_largestWeekBelow 26 rfl) rfl ?_
          refine z_icmp_ge (tgt := 66) C (hv.1 _ _) Rx1 (zd tX7_largestWeekBelow 27 rfl) (by decide) h (fun h => ?_) (fun h => ?_)
          · obtain ⟨t7, et7, Rt7, h⟩ := zn_some h
            refine z_iincE C (zd tX7_largestWeekBelow 36 rfl) (by rw [hN]; decide) rfl et7 ?_
            refine z_goto (tgt := 5) C (zd tX7_largestWeekBelow 37 rfl) (by decide) ?_
            refine z_sub (lo' := [some (zr a0), some (zi x1), some (zi x2), some (zi x3), some (zi t7)]) (zsub_s (zsub_s (zsub_s (zsub_s (zsub_s zsub_0))))) ?_
            exact ih v a0 x1 x2 x3 t7 _ h hv ga0 Rx1 Rx2 Rx3 Rt7 K1
          · refine z_iload_n C (zd tX7_largestWeekBelow 28 rfl) rfl ?_
            refine z_aload_n C (zd tX7_largestWeekBelow 29 rfl) rfl ?_
            refine gl_7_1 C ga0 zic_7 (zm zwd_153) (vl_7_1 ho hv ga0) (zd tX7_largestWeekBelow 30 rfl) ?_
            refine z_iload C (zd tX7_largestWeekBelow 31 rfl) rfl ?_
            obtain ⟨q8, h⟩ := zck_some h
            obtain ⟨u9, eu9, h⟩ := zb_some h
            have gu9 := ge_Premium ho (lk_7_1 ho ga0) q8 eu9
            refine ra_Premium C ho hv (lk_7_1 ho ga0) q8 eu9 (zd tX7_largestWeekBelow 32 rfl) ?_
            refine gf_5_3 C gu9 zic_5 (zm zwd_125) (zd tX7_largestWeekBelow 33 rfl) ?_
            refine z_max C hRm Rx3 (hv.1 _ _) ⟨(zm zwd_776), (zm zwd_712), (zm zwd_14), (zm zwd_713)⟩ ⟨Nat.le_of_ble_eq_true rfl, Nat.le_of_ble_eq_true rfl, Nat.zero_le _, Nat.zero_le _⟩ (zd tX7_largestWeekBelow 34 rfl) ?_
            refine z_istore_n C (zd tX7_largestWeekBelow 35 rfl) (by rw [hN]; decide) ?_
            obtain ⟨t10, et10, Rt10, h⟩ := zn_some h
            refine z_iincE C (zd tX7_largestWeekBelow 36 rfl) (by rw [hN]; decide) rfl et10 ?_
            refine z_goto (tgt := 5) C (zd tX7_largestWeekBelow 37 rfl) (by decide) ?_
            refine z_sub (lo' := [some (zr a0), some (zi x1), some (zi x2), some (zi (max x3 (v u9 3))), some (zi t10)]) (zsub_s (zsub_s (zsub_s (zsub_s (zsub_s zsub_0))))) ?_
            exact ih v a0 x1 x2 (max x3 (v u9 3)) t10 _ h hv ga0 Rx1 Rx2 (zR_max Rx3 (hv.1 _ _)) Rt10 K1
set_option maxRecDepth 100000 in
set_option maxHeartbeats 4000000 in
theorem qX7_largestWeekBelow (l : Launch) (D : va_G) (ids : Nat → ClassId) (b : Nat) {a0 : Nat} (k0 : zK a0 = (7, 10)) {x1 : Int} (Rx1 : zR x1) {x2 : Int} (Rx2 : zR x2) {v v' : zHp} {r' : Int} (hv : zV 0 137 v) (h : fX7_largestWeekBelow v a0 x1 x2 = some (v', r')) : zCT l yX7_largestWeekBelow vsX7_largestWeekBelow rmX7_largestWeekBelow D ids b 0 False 137 [zr a0, zi x1, zi x2] v 137 (zV 0 137 v' ∧ zR r') (some (zi r')) v' 0 0 := by
  refine zMet (own := RX7) (by decide +kernel) (show vsX7_largestWeekBelow = _ from rfl) (Nat.le_of_ble_eq_true rfl) rfl ?_
  intro E hl hRm hD hids hb ho hz hN C hname ret
  subst hl hD hids hb
  have ga0 := kg_7 ho k0
  unfold fX7_largestWeekBelow at h
  refine z_iconst C (zd tX7_largestWeekBelow 0 rfl) ?_
  refine z_istore_n C (zd tX7_largestWeekBelow 1 rfl) (by rw [hN]; decide) ?_
  refine z_iconst C (zd tX7_largestWeekBelow 2 rfl) ?_
  refine z_istore C (zd tX7_largestWeekBelow 3 rfl) (by rw [hN]; decide) ?_
  refine z_sub (lo' := [some (zr a0), some (zi x1), some (zi x2), some (zi 0), some (zi 0)]) (zsub_s (zsub_s (zsub_s (zsub_s (zsub_s zsub_0))))) ?_
  obtain ⟨v11, w12, lv11, h⟩ := zl_some h
  refine bX7_largestWeekBelow_L5 C hN ho hz hRm zFU v a0 x1 x2 0 0 _ lv11 hv ga0 Rx1 Rx2 (zR_c 0 rfl) (zR_c 0 rfl) (fun w1 q1 e1 hv11 Rw12 => ?_)
  obtain ⟨rfl, rfl⟩ := zpp e1
  refine z_iload_n C (zd tX7_largestWeekBelow 38 rfl) rfl ?_
  obtain ⟨rfl, rfl⟩ := zpi h
  exact ret.1 _ _ _ _ ⟨hv11, Rw12⟩ rfl rfl rfl (zd tX7_largestWeekBelow 39 rfl)
noncomputable def vsX0_payBest : List Cond := .code yX0_payBest cX0_payBest 5 (some .int) :: zbig
abbrev rmX0_payBest : Room := { frames := 3, cells := 0, slots := 0, locals := 75 }
theorem pX0_payBest : yX0_payBest.cls = RX0 ∧ yX0_payBest.cls ≠ "java/lang/invoke/MethodHandle" ∧ yX0_payBest.cls ≠ "java/lang/invoke/VarHandle" ∧ (parseMethodDescriptor yX0_payBest.desc).map (fun d => d.parameters.length) = some 2 := by decide +kernel
set_option maxRecDepth 100000 in
set_option maxHeartbeats 4000000 in
theorem bX0_payBest_L18 {E : zE} (C : zC E 137 cX0_payBest RX0 vsX0_payBest) (hN : zEN E = 5) (ho : zEo E = 0) (hz : zEz E = False) (hRm : zER E = rmX0_payBest) : ∀ (fu : Nat) (v : zHp) (a1 : Nat) (x2 : Int) (x3 : Int) (res : (zHp × (Int))), fX0_payBest_L18 fu v a1 x2 x3 = some res → zV 0 137 v → zG E 137 a1 7 10 → zR x2 → zR x3 → (∀ (w : zHp) (q : Int), res = (w, q) → zV 0 137 w → True → zX E 0 0 137 w 76 [some (zr 125), some (zr a1), some (zi x2), none, none] []) → zX E 0 0 137 v 18 [some (zr 125), some (zr a1), some (zi x2), some (zi x3), none] [] := by
  intro fu
  induction fu with
  | zero =>
    intro v _ _ _ res h
    cases h
  | succ fu ih =>
    intro v a1 x2 x3 res h hv ga1 Rx2 Rx3 K1
    rw [fX0_payBest_L18.eq_2] at h
    refine z_iload_n C (zd tX0_payBest 10 rfl) rfl ?_
    refine z_aload_n C (zd tX0_payBest 11 rfl) rfl ?_
    refine gf_0_8 C (lg_125 ho) zic_0 (zm zwd_380) (zd tX0_payBest 12 rfl) ?_
    refine z_icmp_gt (tgt := 76) C Rx3 (hv.1 _ _) (zd tX0_payBest 13 rfl) (by decide) h (fun h => ?_) (fun h => ?_)
    · refine z_sub (lo' := [some (zr 125), some (zr a1), some (zi x2), none, none]) (zsub_s (zsub_s (zsub_s (zsub_n (zsub_n zsub_0))))) ?_
      exact K1 _ _ (Option.some.inj h).symm hv trivial
    · refine z_aload_n C (zd tX0_payBest 14 rfl) rfl ?_
      refine z_iload_n C (zd tX0_payBest 15 rfl) rfl ?_
      obtain ⟨v5, r6, cv5, h⟩ := zcl_some h
      refine zc_V C ho hz hRm (qX7_weekBits _ _ _ _ ga1.1 Rx3 hv cv5) ga1 (by decide) rfl (zgV zwd_777 zwd_753 zwd_754 zwd_4 zwd_755) rfl pX7_weekBits rfl ⟨rfl, rfl⟩ ⟨Nat.le_of_ble_eq_true rfl, Nat.le_of_ble_eq_true rfl⟩ [] rfl (Nat.le_of_ble_eq_true rfl) (zd tX0_payBest 16 rfl) [zi r6] rfl (fun p7 => ?_)
      refine z_iload_n C (zd tX0_payBest 17 rfl) rfl ?_
      refine z_iand C (zd tX0_payBest 18 rfl) ?_
      refine z_istore C (zd tX0_payBest 19 rfl) (by rw [hN]; decide) ?_
      refine z_aload_n C (zd tX0_payBest 20 rfl) rfl ?_
      refine gl_0_3 (t := 132) C (lg_125 ho) zic_0 (zm zwd_375) (vl_0_3 ho p7.1 (lg_125 ho)) (zd tX0_payBest 21 rfl) ?_
      refine z_iload_n C (zd tX0_payBest 22 rfl) rfl ?_
      refine z_aload_n C (zd tX0_payBest 23 rfl) rfl ?_
      refine z_iload C (zd tX0_payBest 24 rfl) rfl ?_
      refine z_iconst C (zd tX0_payBest 25 rfl) ?_
      refine z_iconst C (zd tX0_payBest 26 rfl) ?_
      obtain ⟨v8, r9, cv8, h⟩ := zcl_some h
      refine zc_V C ho hz hRm (qX7_mostOf _ _ _ _ ga1.1 (zR_and _ _) (zR_c 1 rfl) (zR_c 0 rfl) p7.1 cv8) ga1 (by decide) rfl (zgV zwd_778 zwd_779 zwd_780 zwd_4 zwd_781) rfl pX7_mostOf rfl ⟨rfl, rfl⟩ ⟨Nat.le_of_ble_eq_true rfl, Nat.le_of_ble_eq_true rfl⟩ [zi x3, zr 132] rfl (Nat.le_of_ble_eq_true rfl) (zd tX0_payBest 27 rfl) [zi r9, zi x3, zr 132] rfl (fun p10 => ?_)
      obtain ⟨q11, h⟩ := zck_some h
      obtain ⟨v12, ev12, h⟩ := zb_some h
      have hv12 : zV 0 137 v12 := by rw [ev12]; exact p10.1.st p10.2 (lg_132 ho).1 (Or.inr rfl)
      refine za_iast C (lg_132 ho) rfl (by decide) q11 ev12 (zd tX0_payBest 28 rfl) ?_
      refine z_aload_n C (zd tX0_payBest 29 rfl) rfl ?_
      refine gl_0_4 (t := 133) C (lg_125 ho) zic_0 (zm zwd_376) (vl_0_4 ho hv12 (lg_125 ho)) (zd tX0_payBest 30 rfl) ?_
      refine z_iload_n C (zd tX0_payBest 31 rfl) rfl ?_
      refine z_aload_n C (zd tX0_payBest 32 rfl) rfl ?_
      refine z_iload C (zd tX0_payBest 33 rfl) rfl ?_
      refine z_iconst C (zd tX0_payBest 34 rfl) ?_
      refine z_iconst C (zd tX0_payBest 35 rfl) ?_
      obtain ⟨v13, r14, cv13, h⟩ := zcl_some h
      refine zc_V C ho hz hRm (qX7_mostOf _ _ _ _ ga1.1 (zR_and _ _) (zR_c 0 rfl) (zR_c (-1) rfl) hv12 cv13) ga1 (by decide) rfl (zgV zwd_778 zwd_779 zwd_780 zwd_4 zwd_781) rfl pX7_mostOf rfl ⟨rfl, rfl⟩ ⟨Nat.le_of_ble_eq_true rfl, Nat.le_of_ble_eq_true rfl⟩ [zi x3, zr 133] rfl (Nat.le_of_ble_eq_true rfl) (zd tX0_payBest 36 rfl) [zi r14, zi x3, zr 133] rfl (fun p15 => ?_)
      obtain ⟨q16, h⟩ := zck_some h
      obtain ⟨v17, ev17, h⟩ := zb_some h
      have hv17 : zV 0 137 v17 := by rw [ev17]; exact p15.1.st p15.2 (lg_133 ho).1 (Or.inr rfl)
      refine za_iast C (lg_133 ho) rfl (by decide) q16 ev17 (zd tX0_payBest 37 rfl) ?_
      refine z_aload_n C (zd tX0_payBest 38 rfl) rfl ?_
      refine gl_0_6 (t := 135) C (lg_125 ho) zic_0 (zm zwd_378) (vl_0_6 ho hv17 (lg_125 ho)) (zd tX0_payBest 39 rfl) ?_
      refine z_iload_n C (zd tX0_payBest 40 rfl) rfl ?_
      refine z_iconst C (zd tX0_payBest 41 rfl) ?_
      obtain ⟨q18, h⟩ := zck_some h
      obtain ⟨v19, ev19, h⟩ := zb_some h
      have hv19 : zV 0 137 v19 := by rw [ev19]; exact hv17.st (zR_c 0 rfl) (lg_135 ho).1 (Or.inr rfl)
      refine za_iast C (lg_135 ho) rfl (by decide) q18 ev19 (zd tX0_payBest 42 rfl) ?_
      obtain ⟨t20, et20, Rt20, h⟩ := zn_some h
      refine z_iincE C (zd tX0_payBest 43 rfl) (by rw [hN]; decide) rfl et20 ?_
      refine z_goto (tgt := 18) C (zd tX0_payBest 44 rfl) (by decide) ?_
      refine z_sub (lo' := [some (zr 125), some (zr a1), some (zi x2), some (zi t20), none]) (zsub_s (zsub_s (zsub_s (zsub_s (zsub_n zsub_0))))) ?_
      exact ih v19 a1 x2 t20 _ h hv19 ga1 Rx2 Rt20 K1
set_option maxRecDepth 100000 in
set_option maxHeartbeats 4000000 in
theorem bX0_payBest_L91 {E : zE} (C : zC E 137 cX0_payBest RX0 vsX0_payBest) (hN : zEN E = 5) (ho : zEo E = 0) (hz : zEz E = False) (hRm : zER E = rmX0_payBest) : ∀ (fu : Nat) (v : zHp) (a1 : Nat) (x2 : Int) (x3 : Int) (res : (zHp × (Int))), fX0_payBest_L91 fu v a1 x2 x3 = some res → zV 0 137 v → zG E 137 a1 7 10 → zR x2 → zR x3 → (∀ (w : zHp) (q : Int), res = (w, q) → zV 0 137 w → True → zX E 0 0 137 w 106 [some (zr 125), some (zr a1), some (zi x2), none, none] []) → zX E 0 0 137 v 91 [some (zr 125), some (zr a1), some (zi x2), some (zi x3), none] [] := by
  intro fu
  induction fu with
  | zero =>
    intro v _ _ _ res h
    cases h
  | succ fu ih =>
    intro v a1 x2 x3 res h hv ga1 Rx2 Rx3 K1
    rw [fX0_payBest_L91.eq_2] at h
    refine z_iload_n C (zd tX0_payBest 54 rfl) rfl ?_
    refine z_if_lt (tgt := 106) C Rx3 (zd tX0_payBest 55 rfl) (by decide) h (fun h => ?_) (fun h => ?_)
    · refine z_sub (lo' := [some (zr 125), some (zr a1), some (zi x2), none, none]) (zsub_s (zsub_s (zsub_s (zsub_n (zsub_n zsub_0))))) ?_
      exact K1 _ _ (Option.some.inj h).symm hv trivial
    · refine z_aload_n C (zd tX0_payBest 56 rfl) rfl ?_
      refine z_iload_n C (zd tX0_payBest 57 rfl) rfl ?_
      obtain ⟨v27, r28, cv27, h⟩ := zcl_some h
      refine zc_V C ho hz hRm (qX0_markQuarter _ _ _ _ Rx3 hv cv27) (lg_125 ho) (by decide) rfl (zgV zwd_786 zwd_788 zws_20 zwd_11 zwd_789) rfl pX0_markQuarter rfl ⟨rfl, rfl⟩ ⟨Nat.le_of_ble_eq_true rfl, Nat.le_of_ble_eq_true rfl⟩ [] rfl (Nat.le_of_ble_eq_true rfl) (zd tX0_payBest 58 rfl) [] rfl (fun p29 => ?_)
      obtain ⟨t30, et30, Rt30, h⟩ := zn_some h
      refine z_iincE C (zd tX0_payBest 59 rfl) (by rw [hN]; decide) rfl et30 ?_
      refine z_goto (tgt := 91) C (zd tX0_payBest 60 rfl) (by decide) ?_
      refine z_sub (lo' := [some (zr 125), some (zr a1), some (zi x2), some (zi t30), none]) (zsub_s (zsub_s (zsub_s (zsub_s (zsub_n zsub_0))))) ?_
      exact ih v27 a1 x2 t30 _ h p29 ga1 Rx2 Rt30 K1
set_option maxRecDepth 100000 in
set_option maxHeartbeats 4000000 in
theorem qX0_payBest (l : Launch) (D : va_G) (ids : Nat → ClassId) (b : Nat) {a1 : Nat} (k1 : zK a1 = (7, 10)) {x2 : Int} (Rx2 : zR x2) {v v' : zHp} {r' : Int} (hv : zV 0 137 v) (h : fX0_payBest v a1 x2 = some (v', r')) : zCT l yX0_payBest vsX0_payBest rmX0_payBest D ids b 0 False 137 [zr 125, zr a1, zi x2] v 137 (zV 0 137 v' ∧ zR r') (some (zi r')) v' 0 0 := by
  refine zMet (own := RX0) (by decide +kernel) (show vsX0_payBest = _ from rfl) (Nat.le_of_ble_eq_true rfl) rfl ?_
  intro E hl hRm hD hids hb ho hz hN C hname ret
  subst hl hD hids hb
  have ga1 := kg_7 ho k1
  unfold fX0_payBest at h
  refine z_aload_n C (zd tX0_payBest 0 rfl) rfl ?_
  refine z_aload_n C (zd tX0_payBest 1 rfl) rfl ?_
  refine z_aload_n C (zd tX0_payBest 2 rfl) rfl ?_
  refine gl_0_0 (t := 126) C (lg_125 ho) zic_0 (zm zwd_371) (vl_0_0 ho hv (lg_125 ho)) (zd tX0_payBest 3 rfl) ?_
  refine gf_10_3 C (lg_126 ho) zic_10 (zm zwd_357) (zd tX0_payBest 4 rfl) ?_
  refine z_iload_n C (zd tX0_payBest 5 rfl) rfl ?_
  obtain ⟨v1, r2, cv1, h⟩ := zcl_some h
  refine zc_V C ho hz hRm (qX7_largestWeekBelow _ _ _ _ ga1.1 (hv.1 _ _) Rx2 hv cv1) ga1 (by decide) rfl (zgV zwd_772 zwd_773 zwd_774 zwd_4 zwd_775) rfl pX7_largestWeekBelow rfl ⟨rfl, rfl⟩ ⟨Nat.le_of_ble_eq_true rfl, Nat.le_of_ble_eq_true rfl⟩ [zr 125] rfl (Nat.le_of_ble_eq_true rfl) (zd tX0_payBest 6 rfl) [zi r2, zr 125] rfl (fun p3 => ?_)
  obtain ⟨v4, ev4, h⟩ := zb_some h
  have hv4 : zV 0 137 v4 := by rw [ev4]; exact p3.1.st p3.2 (lg_125 ho).1 (Or.inr rfl)
  refine pf_0_8 C (lg_125 ho) zic_0 (zm zwd_380) ev4 (zd tX0_payBest 7 rfl) ?_
  refine z_iconst C (zd tX0_payBest 8 rfl) ?_
  refine z_istore_n C (zd tX0_payBest 9 rfl) (by rw [hN]; decide) ?_
  refine z_sub (lo' := [some (zr 125), some (zr a1), some (zi x2), some (zi 0), none]) (zsub_s (zsub_s (zsub_s (zsub_s (zsub_n zsub_0))))) ?_
  obtain ⟨v21, w22, lv21, h⟩ := zl_some h
  refine bX0_payBest_L18 C hN ho hz hRm zFU v4 a1 x2 0 _ lv21 hv4 ga1 Rx2 (zR_c 0 rfl) (fun w1 q1 e1 hv21 Rw22 => ?_)
  obtain ⟨rfl, rfl⟩ := zpp e1
  refine z_aload_n C (zd tX0_payBest 45 rfl) rfl ?_
  refine z_aload_n C (zd tX0_payBest 46 rfl) rfl ?_
  obtain ⟨v23, r24, cv23, h⟩ := zcl_some h
  refine zc_V C ho hz hRm (qX0_measureQuarters _ _ _ _ ga1.1 hv21 cv23) (lg_125 ho) (by decide) rfl (zgV zwd_782 zwd_784 zws_19 zwd_11 zwd_785) rfl pX0_measureQuarters rfl ⟨rfl, rfl⟩ ⟨Nat.le_of_ble_eq_true rfl, Nat.le_of_ble_eq_true rfl⟩ [] rfl (Nat.le_of_ble_eq_true rfl) (zd tX0_payBest 47 rfl) [] rfl (fun p25 => ?_)
  refine z_aload_n C (zd tX0_payBest 48 rfl) rfl ?_
  refine gl_0_0 (t := 126) C (lg_125 ho) zic_0 (zm zwd_371) (vl_0_0 ho p25 (lg_125 ho)) (zd tX0_payBest 49 rfl) ?_
  refine gf_10_3 C (lg_126 ho) zic_10 (zm zwd_357) (zd tX0_payBest 50 rfl) ?_
  refine z_iconst C (zd tX0_payBest 51 rfl) ?_
  refine z_isub C (zd tX0_payBest 52 rfl) ?_
  obtain ⟨t26, et26, Rt26, h⟩ := zn_some h
  refine z_n0 (congrArg zI et26.symm) ?_
  refine z_istore_n C (zd tX0_payBest 53 rfl) (by rw [hN]; decide) ?_
  refine z_sub (lo' := [some (zr 125), some (zr a1), some (zi x2), some (zi t26), none]) (zsub_s (zsub_s (zsub_s (zsub_s (zsub_n zsub_0))))) ?_
  obtain ⟨v31, w32, lv31, h⟩ := zl_some h
  refine bX0_payBest_L91 C hN ho hz hRm zFU v23 a1 x2 t26 _ lv31 p25 ga1 Rx2 Rt26 (fun w1 q1 e1 hv31 Rw32 => ?_)
  obtain ⟨rfl, rfl⟩ := zpp e1
  refine z_aload_n C (zd tX0_payBest 61 rfl) rfl ?_
  refine z_aload_n C (zd tX0_payBest 62 rfl) rfl ?_
  refine z_iload_n C (zd tX0_payBest 63 rfl) rfl ?_
  obtain ⟨v33, r34, cv33, h⟩ := zcl_some h
  refine zc_V C ho hz hRm (qX0_followMarks _ _ _ _ ga1.1 Rx2 hv31 cv33) (lg_125 ho) (by decide) rfl (zgV zwd_796 zwd_798 zws_22 zwd_11 zwd_799) rfl pX0_followMarks rfl ⟨rfl, rfl⟩ ⟨Nat.le_of_ble_eq_true rfl, Nat.le_of_ble_eq_true rfl⟩ [] rfl (Nat.le_of_ble_eq_true rfl) (zd tX0_payBest 64 rfl) [zi r34] rfl (fun p35 => ?_)
  obtain ⟨rfl, rfl⟩ := zpi h
  exact ret.1 _ _ _ _ ⟨p35.1, p35.2⟩ rfl rfl rfl (zd tX0_payBest 65 rfl)
noncomputable def vsX2_toldAt : List Cond := .code yX2_toldAt cX2_toldAt 2 (some .int) :: zbig
abbrev rmX2_toldAt : Room := { frames := 0, cells := 0, slots := 0, locals := 0 }
theorem pX2_toldAt : yX2_toldAt.cls = RX2 ∧ yX2_toldAt.cls ≠ "java/lang/invoke/MethodHandle" ∧ yX2_toldAt.cls ≠ "java/lang/invoke/VarHandle" ∧ (parseMethodDescriptor yX2_toldAt.desc).map (fun d => d.parameters.length) = some 1 := by decide +kernel
set_option maxRecDepth 100000 in
set_option maxHeartbeats 4000000 in
theorem qX2_toldAt (l : Launch) (D : va_G) (ids : Nat → ClassId) (b : Nat) {a0 : Nat} (k0 : zK a0 = (2, 5)) {x1 : Int} (Rx1 : zR x1) {v v' : zHp} {r' : Int} (hv : zV 0 137 v) (h : fX2_toldAt v a0 x1 = some (v', r')) : zCT l yX2_toldAt vsX2_toldAt rmX2_toldAt D ids b 0 False 137 [zr a0, zi x1] v 137 (zV 0 137 v' ∧ zR r') (some (zi r')) v' 0 0 := by
  refine zMet (own := RX2) (by decide +kernel) (show vsX2_toldAt = _ from rfl) (Nat.le_of_ble_eq_true rfl) rfl ?_
  intro E hl hRm hD hids hb ho hz hN C hname ret
  subst hl hD hids hb
  have ga0 := kg_2 ho k0
  unfold fX2_toldAt at h
  refine z_aload_n C (zd tX2_toldAt 0 rfl) rfl ?_
  refine gf_2_2 C ga0 zic_2 (zm zwd_89) (zd tX2_toldAt 1 rfl) ?_
  refine z_iconst C (zd tX2_toldAt 2 rfl) ?_
  refine z_icmp_ne (tgt := 10) C (hv.1 _ _) (zR_c (-1) rfl) (zd tX2_toldAt 3 rfl) (by decide) h (fun h => ?_) (fun h => ?_)
  · refine z_aload_n C (zd tX2_toldAt 6 rfl) rfl ?_
    refine gf_2_2 C ga0 zic_2 (zm zwd_89) (zd tX2_toldAt 7 rfl) ?_
    refine z_iconst C (zd tX2_toldAt 8 rfl) ?_
    refine z_icmp_ne (tgt := 35) C (hv.1 _ _) (zR_c 1 rfl) (zd tX2_toldAt 9 rfl) (by decide) h (fun h => ?_) (fun h => ?_)
    · refine z_iload_n C (zd tX2_toldAt 20 rfl) rfl ?_
      refine z_aload_n C (zd tX2_toldAt 21 rfl) rfl ?_
      refine gf_2_3 C ga0 zic_2 (zm zwd_91) (zd tX2_toldAt 22 rfl) ?_
      refine z_bipush C (by decide) (zd tX2_toldAt 23 rfl) ?_
      refine z_iadd C (zd tX2_toldAt 24 rfl) ?_
      obtain ⟨t1, et1, Rt1, h⟩ := zn_some h
      refine z_n0 (congrArg zI et1.symm) ?_
      refine z_icmp_ge (tgt := 50) C Rx1 Rt1 (zd tX2_toldAt 25 rfl) (by decide) h (fun h => ?_) (fun h => ?_)
      · refine z_iload_n C (zd tX2_toldAt 28 rfl) rfl ?_
        refine z_bipush C (by decide) (zd tX2_toldAt 29 rfl) ?_
        refine z_isub C (zd tX2_toldAt 30 rfl) ?_
        obtain ⟨t2, et2, Rt2, h⟩ := zn_some h
        refine z_n0 (congrArg zI et2.symm) ?_
        obtain ⟨rfl, rfl⟩ := zpi h
        exact ret.1 _ _ _ _ ⟨hv, Rt2⟩ rfl rfl rfl (zd tX2_toldAt 31 rfl)
      · refine z_iload_n C (zd tX2_toldAt 26 rfl) rfl ?_
        refine z_goto (tgt := 54) C (zd tX2_toldAt 27 rfl) (by decide) ?_
        obtain ⟨rfl, rfl⟩ := zpi h
        exact ret.1 _ _ _ _ ⟨hv, Rx1⟩ rfl rfl rfl (zd tX2_toldAt 31 rfl)
    · refine z_iload_n C (zd tX2_toldAt 10 rfl) rfl ?_
      refine z_aload_n C (zd tX2_toldAt 11 rfl) rfl ?_
      refine gf_2_3 C ga0 zic_2 (zm zwd_91) (zd tX2_toldAt 12 rfl) ?_
      refine z_icmp_ge (tgt := 30) C Rx1 (hv.1 _ _) (zd tX2_toldAt 13 rfl) (by decide) h (fun h => ?_) (fun h => ?_)
      · refine z_iload_n C (zd tX2_toldAt 16 rfl) rfl ?_
        refine z_bipush C (by decide) (zd tX2_toldAt 17 rfl) ?_
        refine z_iadd C (zd tX2_toldAt 18 rfl) ?_
        obtain ⟨t3, et3, Rt3, h⟩ := zn_some h
        refine z_n0 (congrArg zI et3.symm) ?_
        obtain ⟨rfl, rfl⟩ := zpi h
        exact ret.1 _ _ _ _ ⟨hv, Rt3⟩ rfl rfl rfl (zd tX2_toldAt 19 rfl)
      · refine z_iload_n C (zd tX2_toldAt 14 rfl) rfl ?_
        refine z_goto (tgt := 34) C (zd tX2_toldAt 15 rfl) (by decide) ?_
        obtain ⟨rfl, rfl⟩ := zpi h
        exact ret.1 _ _ _ _ ⟨hv, Rx1⟩ rfl rfl rfl (zd tX2_toldAt 19 rfl)
  · refine z_iload_n C (zd tX2_toldAt 4 rfl) rfl ?_
    obtain ⟨rfl, rfl⟩ := zpi h
    exact ret.1 _ _ _ _ ⟨hv, Rx1⟩ rfl rfl rfl (zd tX2_toldAt 5 rfl)
noncomputable def vsX2_hourAt : List Cond := .code yX2_hourAt cX2_hourAt 2 (some .int) :: zbig
abbrev rmX2_hourAt : Room := { frames := 1, cells := 0, slots := 0, locals := 21 }
theorem pX2_hourAt : yX2_hourAt.cls = RX2 ∧ yX2_hourAt.cls ≠ "java/lang/invoke/MethodHandle" ∧ yX2_hourAt.cls ≠ "java/lang/invoke/VarHandle" ∧ (parseMethodDescriptor yX2_hourAt.desc).map (fun d => d.parameters.length) = some 1 := by decide +kernel
set_option maxRecDepth 100000 in
set_option maxHeartbeats 4000000 in
theorem qX2_hourAt (l : Launch) (D : va_G) (ids : Nat → ClassId) (b : Nat) {a0 : Nat} (k0 : zK a0 = (2, 5)) {x1 : Int} (Rx1 : zR x1) {v v' : zHp} {r' : Int} (hv : zV 0 137 v) (h : fX2_hourAt v a0 x1 = some (v', r')) : zCT l yX2_hourAt vsX2_hourAt rmX2_hourAt D ids b 0 False 137 [zr a0, zi x1] v 137 (zV 0 137 v' ∧ zR r') (some (zi r')) v' 0 0 := by
  refine zMet (own := RX2) (by decide +kernel) (show vsX2_hourAt = _ from rfl) (Nat.le_of_ble_eq_true rfl) rfl ?_
  intro E hl hRm hD hids hb ho hz hN C hname ret
  subst hl hD hids hb
  have ga0 := kg_2 ho k0
  unfold fX2_hourAt at h
  refine z_aload_n C (zd tX2_hourAt 0 rfl) rfl ?_
  refine z_iload_n C (zd tX2_hourAt 1 rfl) rfl ?_
  obtain ⟨v1, r2, cv1, h⟩ := zcl_some h
  refine zc_V C ho hz hRm (qX2_toldAt _ _ _ _ ga0.1 Rx1 hv cv1) ga0 (by decide) rfl (zgV zwd_739 zwd_618 zwd_619 zwd_5 zwd_620) rfl pX2_toldAt rfl ⟨rfl, rfl⟩ ⟨Nat.le_of_ble_eq_true rfl, Nat.le_of_ble_eq_true rfl⟩ [] rfl (Nat.le_of_ble_eq_true rfl) (zd tX2_hourAt 2 rfl) [zi r2] rfl (fun p3 => ?_)
  refine z_sipush C (by decide) (zd tX2_hourAt 3 rfl) ?_
  refine z_irem C p3.2 (by decide) (zR_c 1440 rfl) (zd tX2_hourAt 4 rfl) ?_
  refine z_bipush C (by decide) (zd tX2_hourAt 5 rfl) ?_
  refine z_idiv C (zR_mod (by decide) (zR_c 1440 rfl)) (by decide) (zR_c 60 rfl) (zd tX2_hourAt 6 rfl) ?_
  obtain ⟨rfl, rfl⟩ := zpi h
  exact ret.1 _ _ _ _ ⟨p3.1, (zR_div (zR_mod (by decide) (zR_c 1440 rfl)) (by decide))⟩ rfl rfl rfl (zd tX2_hourAt 7 rfl)
noncomputable def vsX2_momentsAhead : List Cond := .code yX2_momentsAhead cX2_momentsAhead 2 (some .int) :: zbig
abbrev rmX2_momentsAhead : Room := { frames := 0, cells := 0, slots := 0, locals := 0 }
theorem pX2_momentsAhead : yX2_momentsAhead.cls = RX2 ∧ yX2_momentsAhead.cls ≠ "java/lang/invoke/MethodHandle" ∧ yX2_momentsAhead.cls ≠ "java/lang/invoke/VarHandle" ∧ (parseMethodDescriptor yX2_momentsAhead.desc).map (fun d => d.parameters.length) = some 1 := by decide +kernel
set_option maxRecDepth 100000 in
set_option maxHeartbeats 4000000 in
theorem qX2_momentsAhead (l : Launch) (D : va_G) (ids : Nat → ClassId) (b : Nat) {a0 : Nat} (k0 : zK a0 = (2, 5)) {x1 : Int} (Rx1 : zR x1) {v v' : zHp} {r' : Int} (hv : zV 0 137 v) (h : fX2_momentsAhead v a0 x1 = some (v', r')) : zCT l yX2_momentsAhead vsX2_momentsAhead rmX2_momentsAhead D ids b 0 False 137 [zr a0, zi x1] v 137 (zV 0 137 v' ∧ zR r') (some (zi r')) v' 0 0 := by
  refine zMet (own := RX2) (by decide +kernel) (show vsX2_momentsAhead = _ from rfl) (Nat.le_of_ble_eq_true rfl) rfl ?_
  intro E hl hRm hD hids hb ho hz hN C hname ret
  subst hl hD hids hb
  have ga0 := kg_2 ho k0
  unfold fX2_momentsAhead at h
  refine z_iload_n C (zd tX2_momentsAhead 0 rfl) rfl ?_
  refine z_sipush C (by decide) (zd tX2_momentsAhead 1 rfl) ?_
  refine z_imul C (zd tX2_momentsAhead 2 rfl) ?_
  refine z_aload_n C (zd tX2_momentsAhead 3 rfl) rfl ?_
  refine gf_2_0 C ga0 zic_2 (zm zwd_85) (zd tX2_momentsAhead 4 rfl) ?_
  refine z_iload_n C (zd tX2_momentsAhead 5 rfl) rfl ?_
  refine z_icmp_ge (tgt := 20) C (hv.1 _ _) Rx1 (zd tX2_momentsAhead 6 rfl) (by decide) h (fun h => ?_) (fun h => ?_)
  · refine z_iconst C (zd tX2_momentsAhead 10 rfl) ?_
    refine z_iadd C (zd tX2_momentsAhead 11 rfl) ?_
    obtain ⟨t1, et1, Rt1, h⟩ := zn_some h
    refine z_n0 (congrArg zI et1.symm) ?_
    obtain ⟨rfl, rfl⟩ := zpi h
    exact ret.1 _ _ _ _ ⟨hv, Rt1⟩ rfl rfl rfl (zd tX2_momentsAhead 12 rfl)
  · refine z_aload_n C (zd tX2_momentsAhead 7 rfl) rfl ?_
    refine gf_2_4 C ga0 zic_2 (zm zwd_92) (zd tX2_momentsAhead 8 rfl) ?_
    refine z_goto (tgt := 21) C (zd tX2_momentsAhead 9 rfl) (by decide) ?_
    refine z_iadd C (zd tX2_momentsAhead 11 rfl) ?_
    obtain ⟨t2, et2, Rt2, h⟩ := zn_some h
    refine z_n0 (congrArg zI et2.symm) ?_
    obtain ⟨rfl, rfl⟩ := zpi h
    exact ret.1 _ _ _ _ ⟨hv, Rt2⟩ rfl rfl rfl (zd tX2_momentsAhead 12 rfl)
noncomputable def vsX2_quartersAhead : List Cond := .code yX2_quartersAhead cX2_quartersAhead 2 (some .int) :: zbig
abbrev rmX2_quartersAhead : Room := { frames := 1, cells := 0, slots := 0, locals := 21 }
theorem pX2_quartersAhead : yX2_quartersAhead.cls = RX2 ∧ yX2_quartersAhead.cls ≠ "java/lang/invoke/MethodHandle" ∧ yX2_quartersAhead.cls ≠ "java/lang/invoke/VarHandle" ∧ (parseMethodDescriptor yX2_quartersAhead.desc).map (fun d => d.parameters.length) = some 1 := by decide +kernel
set_option maxRecDepth 100000 in
set_option maxHeartbeats 4000000 in
theorem qX2_quartersAhead (l : Launch) (D : va_G) (ids : Nat → ClassId) (b : Nat) {a0 : Nat} (k0 : zK a0 = (2, 5)) {x1 : Int} (Rx1 : zR x1) {v v' : zHp} {r' : Int} (hv : zV 0 137 v) (h : fX2_quartersAhead v a0 x1 = some (v', r')) : zCT l yX2_quartersAhead vsX2_quartersAhead rmX2_quartersAhead D ids b 0 False 137 [zr a0, zi x1] v 137 (zV 0 137 v' ∧ zR r') (some (zi r')) v' 0 0 := by
  refine zMet (own := RX2) (by decide +kernel) (show vsX2_quartersAhead = _ from rfl) (Nat.le_of_ble_eq_true rfl) rfl ?_
  intro E hl hRm hD hids hb ho hz hN C hname ret
  subst hl hD hids hb
  have ga0 := kg_2 ho k0
  unfold fX2_quartersAhead at h
  refine z_aload_n C (zd tX2_quartersAhead 0 rfl) rfl ?_
  refine z_iload_n C (zd tX2_quartersAhead 1 rfl) rfl ?_
  obtain ⟨v1, r2, cv1, h⟩ := zcl_some h
  refine zc_V C ho hz hRm (qX2_momentsAhead _ _ _ _ ga0.1 Rx1 hv cv1) ga0 (by decide) rfl (zgV zwd_697 zwd_614 zwd_615 zwd_5 zwd_616) rfl pX2_momentsAhead rfl ⟨rfl, rfl⟩ ⟨Nat.le_of_ble_eq_true rfl, Nat.le_of_ble_eq_true rfl⟩ [] rfl (Nat.le_of_ble_eq_true rfl) (zd tX2_quartersAhead 2 rfl) [zi r2] rfl (fun p3 => ?_)
  refine z_bipush C (by decide) (zd tX2_quartersAhead 3 rfl) ?_
  refine z_idiv C p3.2 (by decide) (zR_c 15 rfl) (zd tX2_quartersAhead 4 rfl) ?_
  obtain ⟨rfl, rfl⟩ := zpi h
  exact ret.1 _ _ _ _ ⟨p3.1, (zR_div p3.2 (by decide))⟩ rfl rfl rfl (zd tX2_quartersAhead 5 rfl)
noncomputable def vsX7_isHoliday : List Cond := .code yX7_isHoliday cX7_isHoliday 3 (some .boolean) :: zbig
abbrev rmX7_isHoliday : Room := { frames := 0, cells := 0, slots := 0, locals := 0 }
theorem pX7_isHoliday : yX7_isHoliday.cls = RX7 ∧ yX7_isHoliday.cls ≠ "java/lang/invoke/MethodHandle" ∧ yX7_isHoliday.cls ≠ "java/lang/invoke/VarHandle" ∧ (parseMethodDescriptor yX7_isHoliday.desc).map (fun d => d.parameters.length) = some 1 := by decide +kernel
set_option maxRecDepth 100000 in
set_option maxHeartbeats 4000000 in
theorem bX7_isHoliday_L2 {E : zE} (C : zC E 137 cX7_isHoliday RX7 vsX7_isHoliday) (hN : zEN E = 3) (ho : zEo E = 0) (hz : zEz E = False) (hRm : zER E = rmX7_isHoliday) : ∀ (fu : Nat) (v : zHp) (a0 : Nat) (x1 : Int) (x2 : Int) (res : ((zHp × Int) ⊕ (zHp × (Int)))), fX7_isHoliday_L2 fu v a0 x1 x2 = some res → zV 0 137 v → zG E 137 a0 7 10 → zR x1 → zR x2 → (∀ (w : zHp) (q : Int), res = .inr (w, q) → zV 0 137 w → True → zX E 0 0 137 w 28 [none, none, none] []) → (∀ (w : zHp) (r : Int), res = .inl (w, r) → zRet E cX7_isHoliday 0 0 137 (some .boolean) (zV 0 137 w ∧ zR r) (some (zi r)) w) → zX E 0 0 137 v 2 [some (zr a0), some (zi x1), some (zi x2)] [] := by
  intro fu
  induction fu with
  | zero =>
    intro v _ _ _ res h
    cases h
  | succ fu ih =>
    intro v a0 x1 x2 res h hv ga0 Rx1 Rx2 K1 K2
    rw [fX7_isHoliday_L2.eq_2] at h
    refine z_iload_n C (zd tX7_isHoliday 2 rfl) rfl ?_
    refine z_aload_n C (zd tX7_isHoliday 3 rfl) rfl ?_
    refine gf_7_4 C ga0 zic_7 (zm zwd_163) (zd tX7_isHoliday 4 rfl) ?_
    refine z_icmp_ge (tgt := 28) C Rx2 (hv.1 _ _) (zd tX7_isHoliday 5 rfl) (by decide) h (fun h => ?_) (fun h => ?_)
    · refine z_sub (lo' := [none, none, none]) (zsub_n (zsub_n (zsub_n zsub_0))) ?_
      exact K1 _ _ (Option.some.inj h).symm hv trivial
    · refine z_aload_n C (zd tX7_isHoliday 6 rfl) rfl ?_
      refine gl_7_3 C ga0 zic_7 (zm zwd_161) (vl_7_3 ho hv ga0) (zd tX7_isHoliday 7 rfl) ?_
      refine z_iload_n C (zd tX7_isHoliday 8 rfl) rfl ?_
      obtain ⟨q1, h⟩ := zck_some h
      refine za_iald C (lk_7_3 ho ga0) rfl (by decide) q1 (zd tX7_isHoliday 9 rfl) ?_
      refine z_iload_n C (zd tX7_isHoliday 10 rfl) rfl ?_
      refine z_icmp_ne (tgt := 22) C (hv.1 _ _) Rx1 (zd tX7_isHoliday 11 rfl) (by decide) h (fun h => ?_) (fun h => ?_)
      · obtain ⟨t2, et2, Rt2, h⟩ := zn_some h
        refine z_iincE C (zd tX7_isHoliday 14 rfl) (by rw [hN]; decide) rfl et2 ?_
        refine z_goto (tgt := 2) C (zd tX7_isHoliday 15 rfl) (by decide) ?_
        refine z_sub (lo' := [some (zr a0), some (zi x1), some (zi t2)]) (zsub_s (zsub_s (zsub_s zsub_0))) ?_
        exact ih v a0 x1 t2 _ h hv ga0 Rx1 Rt2 K1 K2
      · refine z_iconst C (zd tX7_isHoliday 12 rfl) ?_
        have K2 := K2 _ _ (Option.some.inj h).symm
        exact K2.1 _ _ _ _ ⟨hv, (zR_c 1 rfl)⟩ rfl rfl (by decide) (zd tX7_isHoliday 13 rfl)
set_option maxRecDepth 100000 in
set_option maxHeartbeats 4000000 in
theorem qX7_isHoliday (l : Launch) (D : va_G) (ids : Nat → ClassId) (b : Nat) {a0 : Nat} (k0 : zK a0 = (7, 10)) {x1 : Int} (Rx1 : zR x1) {v v' : zHp} {r' : Int} (hv : zV 0 137 v) (h : fX7_isHoliday v a0 x1 = some (v', r')) : zCT l yX7_isHoliday vsX7_isHoliday rmX7_isHoliday D ids b 0 False 137 [zr a0, zi x1] v 137 (zV 0 137 v' ∧ zR r') (some (zi r')) v' 0 0 := by
  refine zMet (own := RX7) (by decide +kernel) (show vsX7_isHoliday = _ from rfl) (Nat.le_of_ble_eq_true rfl) rfl ?_
  intro E hl hRm hD hids hb ho hz hN C hname ret
  subst hl hD hids hb
  have ga0 := kg_7 ho k0
  unfold fX7_isHoliday at h
  refine z_iconst C (zd tX7_isHoliday 0 rfl) ?_
  refine z_istore_n C (zd tX7_isHoliday 1 rfl) (by rw [hN]; decide) ?_
  refine z_sub (lo' := [some (zr a0), some (zi x1), some (zi 0)]) (zsub_s (zsub_s (zsub_s zsub_0))) ?_
  rcases zlf_some h with lv3 | ⟨v3, w4, lv3, h⟩
  · exact bX7_isHoliday_L2 C hN ho hz hRm zFU v a0 x1 0 _ lv3 hv ga0 Rx1 (zR_c 0 rfl) (fun _ _ e => by cases e) (fun _ _ e => by obtain ⟨rfl, rfl⟩ := zpp (Sum.inl.inj e); exact ret)
  · refine bX7_isHoliday_L2 C hN ho hz hRm zFU v a0 x1 0 _ lv3 hv ga0 Rx1 (zR_c 0 rfl) (fun w1 q1 e1 hv3 Rw4 => ?_) (fun _ _ e => by cases e)
    obtain ⟨rfl, rfl⟩ := zpp (Sum.inr.inj e1)
    refine z_iconst C (zd tX7_isHoliday 16 rfl) ?_
    obtain ⟨rfl, rfl⟩ := zpi h
    exact ret.1 _ _ _ _ ⟨hv3, (zR_c 0 rfl)⟩ rfl rfl (by decide) (zd tX7_isHoliday 17 rfl)
noncomputable def vsX5_isAtNight : List Cond := .code yX5_isAtNight cX5_isAtNight 4 (some .boolean) :: zbig
abbrev rmX5_isAtNight : Room := { frames := 0, cells := 0, slots := 0, locals := 0 }
theorem pX5_isAtNight : yX5_isAtNight.cls = RX5 ∧ yX5_isAtNight.cls ≠ "java/lang/invoke/MethodHandle" ∧ yX5_isAtNight.cls ≠ "java/lang/invoke/VarHandle" ∧ (parseMethodDescriptor yX5_isAtNight.desc).map (fun d => d.parameters.length) = some 1 := by decide +kernel
set_option maxRecDepth 100000 in
set_option maxHeartbeats 4000000 in
theorem jX5_isAtNight_J27 {E : zE} (C : zC E 137 cX5_isAtNight RX5 vsX5_isAtNight) (hN : zEN E = 4) (ho : zEo E = 0) (hz : zEz E = False) (hRm : zER E = rmX5_isAtNight) {v' : zHp} {r' : Int} (ret : zRet E cX5_isAtNight 0 0 137 (some .boolean) (zV 0 137 v' ∧ zR r') (some (zi r')) v') (v : zHp) (a0 : Nat) (x2 : Int) (s0 : Int) (h : fX5_isAtNight_J27 v a0 x2 s0 = some (v', r')) (hv : zV 0 137 v) (ga0 : zG E 137 a0 5 5) (Rx2 : zR x2) (Rs0 : zR s0) : zX E 0 0 137 v 27 [some (zr a0), none, some (zi x2), none] [zi s0] := by
  unfold fX5_isAtNight_J27 at h
  refine z_istore_n C (zd tX5_isAtNight 15 rfl) (by rw [hN]; decide) ?_
  refine z_aload_n C (zd tX5_isAtNight 16 rfl) rfl ?_
  refine gf_5_3 C ga0 zic_5 (zm zwd_122) (zd tX5_isAtNight 17 rfl) ?_
  refine z_aload_n C (zd tX5_isAtNight 18 rfl) rfl ?_
  refine gf_5_4 C ga0 zic_5 (zm zwd_126) (zd tX5_isAtNight 19 rfl) ?_
  refine z_icmp_le (tgt := 55) C (hv.1 _ _) (hv.1 _ _) (zd tX5_isAtNight 20 rfl) (by decide) h (fun h => ?_) (fun h => ?_)
  · refine z_iload_n C (zd tX5_isAtNight 29 rfl) rfl ?_
    refine z_if_eq (tgt := 67) C Rx2 (zd tX5_isAtNight 30 rfl) (by decide) h (fun h => ?_) (fun h => ?_)
    · refine z_iconst C (zd tX5_isAtNight 35 rfl) ?_
      obtain ⟨rfl, rfl⟩ := zpi h
      exact ret.1 _ _ _ _ ⟨hv, (zR_c 0 rfl)⟩ rfl rfl (by decide) (zd tX5_isAtNight 36 rfl)
    · refine z_iload_n C (zd tX5_isAtNight 31 rfl) rfl ?_
      refine z_if_eq (tgt := 67) C Rs0 (zd tX5_isAtNight 32 rfl) (by decide) h (fun h => ?_) (fun h => ?_)
      · refine z_iconst C (zd tX5_isAtNight 35 rfl) ?_
        obtain ⟨rfl, rfl⟩ := zpi h
        exact ret.1 _ _ _ _ ⟨hv, (zR_c 0 rfl)⟩ rfl rfl (by decide) (zd tX5_isAtNight 36 rfl)
      · refine z_iconst C (zd tX5_isAtNight 33 rfl) ?_
        refine z_goto (tgt := 68) C (zd tX5_isAtNight 34 rfl) (by decide) ?_
        obtain ⟨rfl, rfl⟩ := zpi h
        exact ret.1 _ _ _ _ ⟨hv, (zR_c 1 rfl)⟩ rfl rfl (by decide) (zd tX5_isAtNight 36 rfl)
  · refine z_iload_n C (zd tX5_isAtNight 21 rfl) rfl ?_
    refine z_if_ne (tgt := 47) C Rx2 (zd tX5_isAtNight 22 rfl) (by decide) h (fun h => ?_) (fun h => ?_)
    · refine z_iconst C (zd tX5_isAtNight 25 rfl) ?_
      refine z_goto (tgt := 68) C (zd tX5_isAtNight 26 rfl) (by decide) ?_
      obtain ⟨rfl, rfl⟩ := zpi h
      exact ret.1 _ _ _ _ ⟨hv, (zR_c 1 rfl)⟩ rfl rfl (by decide) (zd tX5_isAtNight 36 rfl)
    · refine z_iload_n C (zd tX5_isAtNight 23 rfl) rfl ?_
      refine z_if_eq (tgt := 51) C Rs0 (zd tX5_isAtNight 24 rfl) (by decide) h (fun h => ?_) (fun h => ?_)
      · refine z_iconst C (zd tX5_isAtNight 27 rfl) ?_
        refine z_goto (tgt := 68) C (zd tX5_isAtNight 28 rfl) (by decide) ?_
        obtain ⟨rfl, rfl⟩ := zpi h
        exact ret.1 _ _ _ _ ⟨hv, (zR_c 0 rfl)⟩ rfl rfl (by decide) (zd tX5_isAtNight 36 rfl)
      · refine z_iconst C (zd tX5_isAtNight 25 rfl) ?_
        refine z_goto (tgt := 68) C (zd tX5_isAtNight 26 rfl) (by decide) ?_
        obtain ⟨rfl, rfl⟩ := zpi h
        exact ret.1 _ _ _ _ ⟨hv, (zR_c 1 rfl)⟩ rfl rfl (by decide) (zd tX5_isAtNight 36 rfl)
set_option maxRecDepth 100000 in
set_option maxHeartbeats 4000000 in
theorem jX5_isAtNight_J13 {E : zE} (C : zC E 137 cX5_isAtNight RX5 vsX5_isAtNight) (hN : zEN E = 4) (ho : zEo E = 0) (hz : zEz E = False) (hRm : zER E = rmX5_isAtNight) {v' : zHp} {r' : Int} (ret : zRet E cX5_isAtNight 0 0 137 (some .boolean) (zV 0 137 v' ∧ zR r') (some (zi r')) v') (v : zHp) (a0 : Nat) (x1 : Int) (s0 : Int) (h : fX5_isAtNight_J13 v a0 x1 s0 = some (v', r')) (hv : zV 0 137 v) (ga0 : zG E 137 a0 5 5) (Rx1 : zR x1) (Rs0 : zR s0) : zX E 0 0 137 v 13 [some (zr a0), some (zi x1), none, none] [zi s0] := by
  unfold fX5_isAtNight_J13 at h
  refine z_istore_n C (zd tX5_isAtNight 7 rfl) (by rw [hN]; decide) ?_
  refine z_iload_n C (zd tX5_isAtNight 8 rfl) rfl ?_
  refine z_aload_n C (zd tX5_isAtNight 9 rfl) rfl ?_
  refine gf_5_4 C ga0 zic_5 (zm zwd_126) (zd tX5_isAtNight 10 rfl) ?_
  refine z_icmp_ge (tgt := 26) C Rx1 (hv.1 _ _) (zd tX5_isAtNight 11 rfl) (by decide) h (fun h => ?_) (fun h => ?_)
  · refine z_iconst C (zd tX5_isAtNight 14 rfl) ?_
    refine z_sub (lo' := [some (zr a0), none, some (zi s0), none]) (zsub_s (zsub_n (zsub_s (zsub_n zsub_0)))) ?_
    exact jX5_isAtNight_J27 C hN ho hz hRm ret v a0 s0 0 h hv ga0 Rs0 (zR_c 0 rfl)
  · refine z_iconst C (zd tX5_isAtNight 12 rfl) ?_
    refine z_goto (tgt := 27) C (zd tX5_isAtNight 13 rfl) (by decide) ?_
    refine z_sub (lo' := [some (zr a0), none, some (zi s0), none]) (zsub_s (zsub_n (zsub_s (zsub_n zsub_0)))) ?_
    exact jX5_isAtNight_J27 C hN ho hz hRm ret v a0 s0 1 h hv ga0 Rs0 (zR_c 1 rfl)
set_option maxRecDepth 100000 in
set_option maxHeartbeats 4000000 in
theorem qX5_isAtNight (l : Launch) (D : va_G) (ids : Nat → ClassId) (b : Nat) {a0 : Nat} (k0 : zK a0 = (5, 5)) {x1 : Int} (Rx1 : zR x1) {v v' : zHp} {r' : Int} (hv : zV 0 137 v) (h : fX5_isAtNight v a0 x1 = some (v', r')) : zCT l yX5_isAtNight vsX5_isAtNight rmX5_isAtNight D ids b 0 False 137 [zr a0, zi x1] v 137 (zV 0 137 v' ∧ zR r') (some (zi r')) v' 0 0 := by
  refine zMet (own := RX5) (by decide +kernel) (show vsX5_isAtNight = _ from rfl) (Nat.le_of_ble_eq_true rfl) rfl ?_
  intro E hl hRm hD hids hb ho hz hN C hname ret
  subst hl hD hids hb
  have ga0 := kg_5 ho k0
  unfold fX5_isAtNight at h
  refine z_iload_n C (zd tX5_isAtNight 0 rfl) rfl ?_
  refine z_aload_n C (zd tX5_isAtNight 1 rfl) rfl ?_
  refine gf_5_3 C ga0 zic_5 (zm zwd_122) (zd tX5_isAtNight 2 rfl) ?_
  refine z_icmp_lt (tgt := 12) C Rx1 (hv.1 _ _) (zd tX5_isAtNight 3 rfl) (by decide) h (fun h => ?_) (fun h => ?_)
  · refine z_iconst C (zd tX5_isAtNight 6 rfl) ?_
    refine z_sub (lo' := [some (zr a0), some (zi x1), none, none]) (zsub_s (zsub_s (zsub_n (zsub_n zsub_0)))) ?_
    exact jX5_isAtNight_J13 C hN ho hz hRm ret v a0 x1 0 h hv ga0 Rx1 (zR_c 0 rfl)
  · refine z_iconst C (zd tX5_isAtNight 4 rfl) ?_
    refine z_goto (tgt := 13) C (zd tX5_isAtNight 5 rfl) (by decide) ?_
    refine z_sub (lo' := [some (zr a0), some (zi x1), none, none]) (zsub_s (zsub_s (zsub_n (zsub_n zsub_0)))) ?_
    exact jX5_isAtNight_J13 C hN ho hz hRm ret v a0 x1 1 h hv ga0 Rx1 (zR_c 1 rfl)
noncomputable def vsX7_steadyBits : List Cond := .code yX7_steadyBits cX7_steadyBits 8 (some .int) :: zbig
abbrev rmX7_steadyBits : Room := { frames := 1, cells := 0, slots := 0, locals := 23 }
theorem pX7_steadyBits : yX7_steadyBits.cls = RX7 ∧ yX7_steadyBits.cls ≠ "java/lang/invoke/MethodHandle" ∧ yX7_steadyBits.cls ≠ "java/lang/invoke/VarHandle" ∧ (parseMethodDescriptor yX7_steadyBits.desc).map (fun d => d.parameters.length) = some 4 := by decide +kernel
set_option maxRecDepth 100000 in
set_option maxHeartbeats 4000000 in
theorem jX7_steadyBits_J86 {E : zE} (C : zC E 137 cX7_steadyBits RX7 vsX7_steadyBits) (hN : zEN E = 8) (ho : zEo E = 0) (hz : zEz E = False) (hRm : zER E = rmX7_steadyBits) (rc : zHp → Nat → Int → Int → Int → Int → Int → Int → Option (zHp × (Int))) (res : (zHp × (Int))) (v : zHp) (a0 : Nat) (x1 : Int) (x2 : Int) (x3 : Int) (x4 : Int) (x5 : Int) (x6 : Int) (K1 : ∀ (w : zHp) (q : Int), res = (w, q) → zV 0 137 w → zR q → zX E 0 0 137 w 101 [none, none, none, none, none, some (zi q), none, none] []) (hrc0 : True) (h : fX7_steadyBits_J86 rc v a0 x1 x2 x3 x4 x5 x6 = some res) (hv : zV 0 137 v) (ga0 : zG E 137 a0 7 10) (Rx1 : zR x1) (Rx2 : zR x2) (Rx3 : zR x3) (Rx4 : zR x4) (Rx5 : zR x5) (Rx6 : zR x6) (hrc : ∀ (v : zHp) (z5 : Int) (z6 : Int), rc v a0 x1 x2 x3 x4 z5 z6 = some res → zV 0 137 v → zR z5 → zR z6 → zX E 0 0 137 v 6 [some (zr a0), some (zi x1), some (zi x2), some (zi x3), some (zi x4), some (zi z5), some (zi z6), none] []): zX E 0 0 137 v 86 [some (zr a0), some (zi x1), some (zi x2), some (zi x3), some (zi x4), some (zi x5), some (zi x6), none] [] := by
  unfold fX7_steadyBits_J86 at h
  refine z_iload C (zd tX7_steadyBits 40 rfl) rfl ?_
  refine z_iconst C (zd tX7_steadyBits 41 rfl) ?_
  refine z_iload C (zd tX7_steadyBits 42 rfl) rfl ?_
  refine z_ishl C (zd tX7_steadyBits 43 rfl) ?_
  refine z_ior C (zd tX7_steadyBits 44 rfl) ?_
  refine z_istore C (zd tX7_steadyBits 45 rfl) (by rw [hN]; decide) ?_
  obtain ⟨t5, et5, Rt5, h⟩ := zn_some h
  refine z_iincE C (zd tX7_steadyBits 46 rfl) (by rw [hN]; decide) rfl et5 ?_
  refine z_goto (tgt := 6) C (zd tX7_steadyBits 47 rfl) (by decide) ?_
  refine z_sub (lo' := [some (zr a0), some (zi x1), some (zi x2), some (zi x3), some (zi x4), some (zi (zor x5 (zshl 1 x6))), some (zi t5), none]) (zsub_s (zsub_s (zsub_s (zsub_s (zsub_s (zsub_s (zsub_s (zsub_n zsub_0)))))))) ?_
  exact hrc v (zor x5 (zshl 1 x6)) t5 h hv (zR_or _ _) Rt5
set_option maxRecDepth 100000 in
set_option maxHeartbeats 4000000 in
theorem jX7_steadyBits_J72 {E : zE} (C : zC E 137 cX7_steadyBits RX7 vsX7_steadyBits) (hN : zEN E = 8) (ho : zEo E = 0) (hz : zEz E = False) (hRm : zER E = rmX7_steadyBits) (rc : zHp → Nat → Int → Int → Int → Int → Int → Int → Option (zHp × (Int))) (res : (zHp × (Int))) (v : zHp) (a0 : Nat) (x1 : Int) (x2 : Int) (x3 : Int) (x4 : Int) (x5 : Int) (x6 : Int) (a7 : Nat) (K1 : ∀ (w : zHp) (q : Int), res = (w, q) → zV 0 137 w → zR q → zX E 0 0 137 w 101 [none, none, none, none, none, some (zi q), none, none] []) (hrc0 : True) (h : fX7_steadyBits_J72 rc v a0 x1 x2 x3 x4 x5 x6 a7 = some res) (hv : zV 0 137 v) (ga0 : zG E 137 a0 7 10) (Rx1 : zR x1) (Rx2 : zR x2) (Rx3 : zR x3) (Rx4 : zR x4) (Rx5 : zR x5) (Rx6 : zR x6) (ga7 : zG E 137 a7 5 5) (hrc : ∀ (v : zHp) (z5 : Int) (z6 : Int), rc v a0 x1 x2 x3 x4 z5 z6 = some res → zV 0 137 v → zR z5 → zR z6 → zX E 0 0 137 v 6 [some (zr a0), some (zi x1), some (zi x2), some (zi x3), some (zi x4), some (zi z5), some (zi z6), none] []): zX E 0 0 137 v 72 [some (zr a0), some (zi x1), some (zi x2), some (zi x3), some (zi x4), some (zi x5), some (zi x6), some (zr a7)] [] := by
  unfold fX7_steadyBits_J72 at h
  refine z_aload C (zd tX7_steadyBits 34 rfl) rfl ?_
  refine gf_5_0 C ga7 zic_5 (zm zwd_113) (zd tX7_steadyBits 35 rfl) ?_
  refine z_iconst C (zd tX7_steadyBits 36 rfl) ?_
  refine z_icmp_ne (tgt := 95) C (hv.1 _ _) (zR_c 4 rfl) (zd tX7_steadyBits 37 rfl) (by decide) h (fun h => ?_) (fun h => ?_)
  · obtain ⟨t3, et3, Rt3, h⟩ := zn_some h
    refine z_iincE C (zd tX7_steadyBits 46 rfl) (by rw [hN]; decide) rfl et3 ?_
    refine z_goto (tgt := 6) C (zd tX7_steadyBits 47 rfl) (by decide) ?_
    refine z_sub (lo' := [some (zr a0), some (zi x1), some (zi x2), some (zi x3), some (zi x4), some (zi x5), some (zi t3), none]) (zsub_s (zsub_s (zsub_s (zsub_s (zsub_s (zsub_s (zsub_s (zsub_n zsub_0)))))))) ?_
    exact hrc v x5 t3 h hv Rx5 Rt3
  · refine z_iload C (zd tX7_steadyBits 38 rfl) rfl ?_
    refine z_if_eq (tgt := 95) C Rx4 (zd tX7_steadyBits 39 rfl) (by decide) h (fun h => ?_) (fun h => ?_)
    · obtain ⟨t4, et4, Rt4, h⟩ := zn_some h
      refine z_iincE C (zd tX7_steadyBits 46 rfl) (by rw [hN]; decide) rfl et4 ?_
      refine z_goto (tgt := 6) C (zd tX7_steadyBits 47 rfl) (by decide) ?_
      refine z_sub (lo' := [some (zr a0), some (zi x1), some (zi x2), some (zi x3), some (zi x4), some (zi x5), some (zi t4), none]) (zsub_s (zsub_s (zsub_s (zsub_s (zsub_s (zsub_s (zsub_s (zsub_n zsub_0)))))))) ?_
      exact hrc v x5 t4 h hv Rx5 Rt4
    · refine z_sub (lo' := [some (zr a0), some (zi x1), some (zi x2), some (zi x3), some (zi x4), some (zi x5), some (zi x6), none]) (zsub_s (zsub_s (zsub_s (zsub_s (zsub_s (zsub_s (zsub_s (zsub_n zsub_0)))))))) ?_
      exact jX7_steadyBits_J86 C hN ho hz hRm _ _ v a0 x1 x2 x3 x4 x5 x6 K1 trivial h hv ga0 Rx1 Rx2 Rx3 Rx4 Rx5 Rx6 hrc
set_option maxRecDepth 100000 in
set_option maxHeartbeats 4000000 in
theorem jX7_steadyBits_J54 {E : zE} (C : zC E 137 cX7_steadyBits RX7 vsX7_steadyBits) (hN : zEN E = 8) (ho : zEo E = 0) (hz : zEz E = False) (hRm : zER E = rmX7_steadyBits) (rc : zHp → Nat → Int → Int → Int → Int → Int → Int → Option (zHp × (Int))) (res : (zHp × (Int))) (v : zHp) (a0 : Nat) (x1 : Int) (x2 : Int) (x3 : Int) (x4 : Int) (x5 : Int) (x6 : Int) (a7 : Nat) (K1 : ∀ (w : zHp) (q : Int), res = (w, q) → zV 0 137 w → zR q → zX E 0 0 137 w 101 [none, none, none, none, none, some (zi q), none, none] []) (hrc0 : True) (h : fX7_steadyBits_J54 rc v a0 x1 x2 x3 x4 x5 x6 a7 = some res) (hv : zV 0 137 v) (ga0 : zG E 137 a0 7 10) (Rx1 : zR x1) (Rx2 : zR x2) (Rx3 : zR x3) (Rx4 : zR x4) (Rx5 : zR x5) (Rx6 : zR x6) (ga7 : zG E 137 a7 5 5) (hrc : ∀ (v : zHp) (z5 : Int) (z6 : Int), rc v a0 x1 x2 x3 x4 z5 z6 = some res → zV 0 137 v → zR z5 → zR z6 → zX E 0 0 137 v 6 [some (zr a0), some (zi x1), some (zi x2), some (zi x3), some (zi x4), some (zi z5), some (zi z6), none] []): zX E 0 0 137 v 54 [some (zr a0), some (zi x1), some (zi x2), some (zi x3), some (zi x4), some (zi x5), some (zi x6), some (zr a7)] [] := by
  unfold fX7_steadyBits_J54 at h
  refine z_aload C (zd tX7_steadyBits 26 rfl) rfl ?_
  refine gf_5_0 C ga7 zic_5 (zm zwd_113) (zd tX7_steadyBits 27 rfl) ?_
  refine z_iconst C (zd tX7_steadyBits 28 rfl) ?_
  refine z_icmp_ne (tgt := 72) C (hv.1 _ _) (zR_c 3 rfl) (zd tX7_steadyBits 29 rfl) (by decide) h (fun h => ?_) (fun h => ?_)
  · refine z_sub (lo' := [some (zr a0), some (zi x1), some (zi x2), some (zi x3), some (zi x4), some (zi x5), some (zi x6), some (zr a7)]) (zsub_s (zsub_s (zsub_s (zsub_s (zsub_s (zsub_s (zsub_s (zsub_s zsub_0)))))))) ?_
    exact jX7_steadyBits_J72 C hN ho hz hRm _ _ v a0 x1 x2 x3 x4 x5 x6 a7 K1 trivial h hv ga0 Rx1 Rx2 Rx3 Rx4 Rx5 Rx6 ga7 hrc
  · refine z_aload C (zd tX7_steadyBits 30 rfl) rfl ?_
    refine z_iload_n C (zd tX7_steadyBits 31 rfl) rfl ?_
    obtain ⟨v6, r7, cv6, h⟩ := zcl_some h
    refine zc_V C ho hz hRm (qX5_isAtNight _ _ _ _ ga7.1 Rx1 hv cv6) ga7 (by decide) rfl (zgV zwd_744 zwd_745 zwd_746 zwd_6 zwd_747) rfl pX5_isAtNight rfl ⟨rfl, rfl⟩ ⟨Nat.le_of_ble_eq_true rfl, Nat.le_of_ble_eq_true rfl⟩ [] rfl (Nat.le_of_ble_eq_true rfl) (zd tX7_steadyBits 32 rfl) [zi r7] rfl (fun p8 => ?_)
    refine z_if_ne (tgt := 86) C p8.2 (zd tX7_steadyBits 33 rfl) (by decide) h (fun h => ?_) (fun h => ?_)
    · refine z_sub (lo' := [some (zr a0), some (zi x1), some (zi x2), some (zi x3), some (zi x4), some (zi x5), some (zi x6), none]) (zsub_s (zsub_s (zsub_s (zsub_s (zsub_s (zsub_s (zsub_s (zsub_n zsub_0)))))))) ?_
      exact jX7_steadyBits_J86 C hN ho hz hRm _ _ v6 a0 x1 x2 x3 x4 x5 x6 K1 trivial h p8.1 ga0 Rx1 Rx2 Rx3 Rx4 Rx5 Rx6 hrc
    · refine z_sub (lo' := [some (zr a0), some (zi x1), some (zi x2), some (zi x3), some (zi x4), some (zi x5), some (zi x6), some (zr a7)]) (zsub_s (zsub_s (zsub_s (zsub_s (zsub_s (zsub_s (zsub_s (zsub_s zsub_0)))))))) ?_
      exact jX7_steadyBits_J72 C hN ho hz hRm _ _ v6 a0 x1 x2 x3 x4 x5 x6 a7 K1 trivial h p8.1 ga0 Rx1 Rx2 Rx3 Rx4 Rx5 Rx6 ga7 hrc
set_option maxRecDepth 100000 in
set_option maxHeartbeats 4000000 in
theorem jX7_steadyBits_J41 {E : zE} (C : zC E 137 cX7_steadyBits RX7 vsX7_steadyBits) (hN : zEN E = 8) (ho : zEo E = 0) (hz : zEz E = False) (hRm : zER E = rmX7_steadyBits) (rc : zHp → Nat → Int → Int → Int → Int → Int → Int → Option (zHp × (Int))) (res : (zHp × (Int))) (v : zHp) (a0 : Nat) (x1 : Int) (x2 : Int) (x3 : Int) (x4 : Int) (x5 : Int) (x6 : Int) (a7 : Nat) (K1 : ∀ (w : zHp) (q : Int), res = (w, q) → zV 0 137 w → zR q → zX E 0 0 137 w 101 [none, none, none, none, none, some (zi q), none, none] []) (hrc0 : True) (h : fX7_steadyBits_J41 rc v a0 x1 x2 x3 x4 x5 x6 a7 = some res) (hv : zV 0 137 v) (ga0 : zG E 137 a0 7 10) (Rx1 : zR x1) (Rx2 : zR x2) (Rx3 : zR x3) (Rx4 : zR x4) (Rx5 : zR x5) (Rx6 : zR x6) (ga7 : zG E 137 a7 5 5) (hrc : ∀ (v : zHp) (z5 : Int) (z6 : Int), rc v a0 x1 x2 x3 x4 z5 z6 = some res → zV 0 137 v → zR z5 → zR z6 → zX E 0 0 137 v 6 [some (zr a0), some (zi x1), some (zi x2), some (zi x3), some (zi x4), some (zi z5), some (zi z6), none] []): zX E 0 0 137 v 41 [some (zr a0), some (zi x1), some (zi x2), some (zi x3), some (zi x4), some (zi x5), some (zi x6), some (zr a7)] [] := by
  unfold fX7_steadyBits_J41 at h
  refine z_aload C (zd tX7_steadyBits 20 rfl) rfl ?_
  refine gf_5_0 C ga7 zic_5 (zm zwd_113) (zd tX7_steadyBits 21 rfl) ?_
  refine z_iconst C (zd tX7_steadyBits 22 rfl) ?_
  refine z_icmp_ne (tgt := 54) C (hv.1 _ _) (zR_c 2 rfl) (zd tX7_steadyBits 23 rfl) (by decide) h (fun h => ?_) (fun h => ?_)
  · refine z_sub (lo' := [some (zr a0), some (zi x1), some (zi x2), some (zi x3), some (zi x4), some (zi x5), some (zi x6), some (zr a7)]) (zsub_s (zsub_s (zsub_s (zsub_s (zsub_s (zsub_s (zsub_s (zsub_s zsub_0)))))))) ?_
    exact jX7_steadyBits_J54 C hN ho hz hRm _ _ v a0 x1 x2 x3 x4 x5 x6 a7 K1 trivial h hv ga0 Rx1 Rx2 Rx3 Rx4 Rx5 Rx6 ga7 hrc
  · refine z_iload_n C (zd tX7_steadyBits 24 rfl) rfl ?_
    refine z_if_ne (tgt := 86) C Rx3 (zd tX7_steadyBits 25 rfl) (by decide) h (fun h => ?_) (fun h => ?_)
    · refine z_sub (lo' := [some (zr a0), some (zi x1), some (zi x2), some (zi x3), some (zi x4), some (zi x5), some (zi x6), none]) (zsub_s (zsub_s (zsub_s (zsub_s (zsub_s (zsub_s (zsub_s (zsub_n zsub_0)))))))) ?_
      exact jX7_steadyBits_J86 C hN ho hz hRm _ _ v a0 x1 x2 x3 x4 x5 x6 K1 trivial h hv ga0 Rx1 Rx2 Rx3 Rx4 Rx5 Rx6 hrc
    · refine z_sub (lo' := [some (zr a0), some (zi x1), some (zi x2), some (zi x3), some (zi x4), some (zi x5), some (zi x6), some (zr a7)]) (zsub_s (zsub_s (zsub_s (zsub_s (zsub_s (zsub_s (zsub_s (zsub_s zsub_0)))))))) ?_
      exact jX7_steadyBits_J54 C hN ho hz hRm _ _ v a0 x1 x2 x3 x4 x5 x6 a7 K1 trivial h hv ga0 Rx1 Rx2 Rx3 Rx4 Rx5 Rx6 ga7 hrc
set_option maxRecDepth 100000 in
set_option maxHeartbeats 4000000 in
theorem bX7_steadyBits_L6 {E : zE} (C : zC E 137 cX7_steadyBits RX7 vsX7_steadyBits) (hN : zEN E = 8) (ho : zEo E = 0) (hz : zEz E = False) (hRm : zER E = rmX7_steadyBits) : ∀ (fu : Nat) (v : zHp) (a0 : Nat) (x1 : Int) (x2 : Int) (x3 : Int) (x4 : Int) (x5 : Int) (x6 : Int) (res : (zHp × (Int))), fX7_steadyBits_L6 fu v a0 x1 x2 x3 x4 x5 x6 = some res → zV 0 137 v → zG E 137 a0 7 10 → zR x1 → zR x2 → zR x3 → zR x4 → zR x5 → zR x6 → (∀ (w : zHp) (q : Int), res = (w, q) → zV 0 137 w → zR q → zX E 0 0 137 w 101 [none, none, none, none, none, some (zi q), none, none] []) → zX E 0 0 137 v 6 [some (zr a0), some (zi x1), some (zi x2), some (zi x3), some (zi x4), some (zi x5), some (zi x6), none] [] := by
  intro fu
  induction fu with
  | zero =>
    intro v _ _ _ _ _ _ _ res h
    cases h
  | succ fu ih =>
    intro v a0 x1 x2 x3 x4 x5 x6 res h hv ga0 Rx1 Rx2 Rx3 Rx4 Rx5 Rx6 K1
    rw [fX7_steadyBits_L6.eq_2] at h
    refine z_iload C (zd tX7_steadyBits 4 rfl) rfl ?_
    refine z_aload_n C (zd tX7_steadyBits 5 rfl) rfl ?_
    refine gf_7_2 C ga0 zic_7 (zm zwd_157) (zd tX7_steadyBits 6 rfl) ?_
    refine z_icmp_ge (tgt := 101) C Rx6 (hv.1 _ _) (zd tX7_steadyBits 7 rfl) (by decide) h (fun h => ?_) (fun h => ?_)
    · refine z_sub (lo' := [none, none, none, none, none, some (zi x5), none, none]) (zsub_n (zsub_n (zsub_n (zsub_n (zsub_n (zsub_s (zsub_n (zsub_n zsub_0)))))))) ?_
      exact K1 _ _ (Option.some.inj h).symm hv Rx5
    · refine z_aload_n C (zd tX7_steadyBits 8 rfl) rfl ?_
      refine gl_7_1 C ga0 zic_7 (zm zwd_153) (vl_7_1 ho hv ga0) (zd tX7_steadyBits 9 rfl) ?_
      refine z_iload C (zd tX7_steadyBits 10 rfl) rfl ?_
      obtain ⟨q1, h⟩ := zck_some h
      obtain ⟨u2, eu2, h⟩ := zb_some h
      have gu2 := ge_Premium ho (lk_7_1 ho ga0) q1 eu2
      refine ra_Premium C ho hv (lk_7_1 ho ga0) q1 eu2 (zd tX7_steadyBits 11 rfl) ?_
      refine z_astore C (zd tX7_steadyBits 12 rfl) (by rw [hN]; decide) ?_
      refine z_aload C (zd tX7_steadyBits 13 rfl) rfl ?_
      refine gf_5_0 C gu2 zic_5 (zm zwd_113) (zd tX7_steadyBits 14 rfl) ?_
      refine z_if_ne (tgt := 41) C (hv.1 _ _) (zd tX7_steadyBits 15 rfl) (by decide) h (fun h => ?_) (fun h => ?_)
      · refine z_sub (lo' := [some (zr a0), some (zi x1), some (zi x2), some (zi x3), some (zi x4), some (zi x5), some (zi x6), some (zr u2)]) (zsub_s (zsub_s (zsub_s (zsub_s (zsub_s (zsub_s (zsub_s (zsub_s zsub_0)))))))) ?_
        exact jX7_steadyBits_J41 C hN ho hz hRm _ _ v a0 x1 x2 x3 x4 x5 x6 u2 K1 trivial h hv ga0 Rx1 Rx2 Rx3 Rx4 Rx5 Rx6 gu2 (fun w z5 z6 hw hvw y5 y6 => ih w a0 x1 x2 x3 x4 z5 z6 _ hw hvw ga0 Rx1 Rx2 Rx3 Rx4 y5 y6 K1)
      · refine z_iload_n C (zd tX7_steadyBits 16 rfl) rfl ?_
        refine z_aload C (zd tX7_steadyBits 17 rfl) rfl ?_
        refine gf_5_3 C gu2 zic_5 (zm zwd_125) (zd tX7_steadyBits 18 rfl) ?_
        refine z_icmp_ge (tgt := 86) C Rx2 (hv.1 _ _) (zd tX7_steadyBits 19 rfl) (by decide) h (fun h => ?_) (fun h => ?_)
        · refine z_sub (lo' := [some (zr a0), some (zi x1), some (zi x2), some (zi x3), some (zi x4), some (zi x5), some (zi x6), none]) (zsub_s (zsub_s (zsub_s (zsub_s (zsub_s (zsub_s (zsub_s (zsub_n zsub_0)))))))) ?_
          exact jX7_steadyBits_J86 C hN ho hz hRm _ _ v a0 x1 x2 x3 x4 x5 x6 K1 trivial h hv ga0 Rx1 Rx2 Rx3 Rx4 Rx5 Rx6 (fun w z5 z6 hw hvw y5 y6 => ih w a0 x1 x2 x3 x4 z5 z6 _ hw hvw ga0 Rx1 Rx2 Rx3 Rx4 y5 y6 K1)
        · refine z_sub (lo' := [some (zr a0), some (zi x1), some (zi x2), some (zi x3), some (zi x4), some (zi x5), some (zi x6), some (zr u2)]) (zsub_s (zsub_s (zsub_s (zsub_s (zsub_s (zsub_s (zsub_s (zsub_s zsub_0)))))))) ?_
          exact jX7_steadyBits_J41 C hN ho hz hRm _ _ v a0 x1 x2 x3 x4 x5 x6 u2 K1 trivial h hv ga0 Rx1 Rx2 Rx3 Rx4 Rx5 Rx6 gu2 (fun w z5 z6 hw hvw y5 y6 => ih w a0 x1 x2 x3 x4 z5 z6 _ hw hvw ga0 Rx1 Rx2 Rx3 Rx4 y5 y6 K1)
set_option maxRecDepth 100000 in
set_option maxHeartbeats 4000000 in
theorem qX7_steadyBits (l : Launch) (D : va_G) (ids : Nat → ClassId) (b : Nat) {a0 : Nat} (k0 : zK a0 = (7, 10)) {x1 : Int} (Rx1 : zR x1) {x2 : Int} (Rx2 : zR x2) {x3 : Int} (Rx3 : zR x3) {x4 : Int} (Rx4 : zR x4) {v v' : zHp} {r' : Int} (hv : zV 0 137 v) (h : fX7_steadyBits v a0 x1 x2 x3 x4 = some (v', r')) : zCT l yX7_steadyBits vsX7_steadyBits rmX7_steadyBits D ids b 0 False 137 [zr a0, zi x1, zi x2, zi x3, zi x4] v 137 (zV 0 137 v' ∧ zR r') (some (zi r')) v' 0 0 := by
  refine zMet (own := RX7) (by decide +kernel) (show vsX7_steadyBits = _ from rfl) (Nat.le_of_ble_eq_true rfl) rfl ?_
  intro E hl hRm hD hids hb ho hz hN C hname ret
  subst hl hD hids hb
  have ga0 := kg_7 ho k0
  unfold fX7_steadyBits at h
  refine z_iconst C (zd tX7_steadyBits 0 rfl) ?_
  refine z_istore C (zd tX7_steadyBits 1 rfl) (by rw [hN]; decide) ?_
  refine z_iconst C (zd tX7_steadyBits 2 rfl) ?_
  refine z_istore C (zd tX7_steadyBits 3 rfl) (by rw [hN]; decide) ?_
  refine z_sub (lo' := [some (zr a0), some (zi x1), some (zi x2), some (zi x3), some (zi x4), some (zi 0), some (zi 0), none]) (zsub_s (zsub_s (zsub_s (zsub_s (zsub_s (zsub_s (zsub_s (zsub_n zsub_0)))))))) ?_
  obtain ⟨v9, w10, lv9, h⟩ := zl_some h
  refine bX7_steadyBits_L6 C hN ho hz hRm zFU v a0 x1 x2 x3 x4 0 0 _ lv9 hv ga0 Rx1 Rx2 Rx3 Rx4 (zR_c 0 rfl) (zR_c 0 rfl) (fun w1 q1 e1 hv9 Rw10 => ?_)
  obtain ⟨rfl, rfl⟩ := zpp e1
  refine z_iload C (zd tX7_steadyBits 48 rfl) rfl ?_
  obtain ⟨rfl, rfl⟩ := zpi h
  exact ret.1 _ _ _ _ ⟨hv9, Rw10⟩ rfl rfl rfl (zd tX7_steadyBits 49 rfl)
noncomputable def vsX10_gatherDay : List Cond := .code yX10_gatherDay cX10_gatherDay 14 none :: zbig
abbrev rmX10_gatherDay : Room := { frames := 2, cells := 0, slots := 0, locals := 50 }
theorem pX10_gatherDay : yX10_gatherDay.cls = RX10 ∧ yX10_gatherDay.cls ≠ "java/lang/invoke/MethodHandle" ∧ yX10_gatherDay.cls ≠ "java/lang/invoke/VarHandle" ∧ (parseMethodDescriptor yX10_gatherDay.desc).map (fun d => d.parameters.length) = some 4 := by decide +kernel
set_option maxRecDepth 100000 in
set_option maxHeartbeats 4000000 in
theorem bX10_gatherDay_L100 {E : zE} (C : zC E 137 cX10_gatherDay RX10 vsX10_gatherDay) (hN : zEN E = 14) (ho : zEo E = 0) (hz : zEz E = False) (hRm : zER E = rmX10_gatherDay) : ∀ (fu : Nat) (v : zHp) (a2 : Nat) (a3 : Nat) (x4 : Int) (x5 : Int) (x6 : Int) (x7 : Int) (x8 : Int) (x9 : Int) (x10 : Int) (x11 : Int) (x12 : Int) (res : (zHp × (Int))), fX10_gatherDay_L100 fu v a2 a3 x4 x5 x6 x7 x8 x9 x10 x11 x12 = some res → zV 0 137 v → zG E 137 a2 4 3 → zG E 137 a3 7 10 → zR x4 → zR x5 → zR x6 → zR x7 → zR x8 → zR x9 → zR x10 → zR x11 → zR x12 → (∀ (w : zHp) (q : Int), res = (w, q) → zV 0 137 w → True → zX E 0 0 137 w 187 [some (zr 126), none, some (zr a2), some (zr a3), some (zi x4), some (zi x5), some (zi x6), some (zi x7), some (zi x8), some (zi x9), some (zi x10), none, none, none] []) → zX E 0 0 137 v 100 [some (zr 126), none, some (zr a2), some (zr a3), some (zi x4), some (zi x5), some (zi x6), some (zi x7), some (zi x8), some (zi x9), some (zi x10), some (zi x11), some (zi x12), none] [] := by
  intro fu
  induction fu with
  | zero =>
    intro v _ _ _ _ _ _ _ _ _ _ _ res h
    cases h
  | succ fu ih =>
    intro v a2 a3 x4 x5 x6 x7 x8 x9 x10 x11 x12 res h hv ga2 ga3 Rx4 Rx5 Rx6 Rx7 Rx8 Rx9 Rx10 Rx11 Rx12 K1
    rw [fX10_gatherDay_L100.eq_2] at h
    refine z_iload C (zd tX10_gatherDay 52 rfl) rfl ?_
    refine z_iload C (zd tX10_gatherDay 53 rfl) rfl ?_
    refine z_icmp_ge (tgt := 187) C Rx12 Rx11 (zd tX10_gatherDay 54 rfl) (by decide) h (fun h => ?_) (fun h => ?_)
    · refine z_sub (lo' := [some (zr 126), none, some (zr a2), some (zr a3), some (zi x4), some (zi x5), some (zi x6), some (zi x7), some (zi x8), some (zi x9), some (zi x10), none, none, none]) (zsub_s (zsub_n (zsub_s (zsub_s (zsub_s (zsub_s (zsub_s (zsub_s (zsub_s (zsub_s (zsub_s (zsub_n (zsub_n (zsub_n zsub_0)))))))))))))) ?_
      exact K1 _ _ (Option.some.inj h).symm hv trivial
    · refine z_aload_n C (zd tX10_gatherDay 55 rfl) rfl ?_
      refine gf_10_3 C (lg_126 ho) zic_10 (zm zwd_356) (zd tX10_gatherDay 56 rfl) ?_
      refine z_sipush C (by decide) (zd tX10_gatherDay 57 rfl) ?_
      refine z_icmp_ge (tgt := 187) C (hv.1 _ _) (zR_c 676 rfl) (zd tX10_gatherDay 58 rfl) (by decide) h (fun h => ?_) (fun h => ?_)
      · refine z_sub (lo' := [some (zr 126), none, some (zr a2), some (zr a3), some (zi x4), some (zi x5), some (zi x6), some (zi x7), some (zi x8), some (zi x9), some (zi x10), none, none, none]) (zsub_s (zsub_n (zsub_s (zsub_s (zsub_s (zsub_s (zsub_s (zsub_s (zsub_s (zsub_s (zsub_s (zsub_n (zsub_n (zsub_n zsub_0)))))))))))))) ?_
        exact K1 _ _ (Option.some.inj h).symm hv trivial
      · refine z_aload_n C (zd tX10_gatherDay 59 rfl) rfl ?_
        refine gl_7_0 C ga3 zic_7 (zm zwd_149) (vl_7_0 ho hv ga3) (zd tX10_gatherDay 60 rfl) ?_
        refine z_iload C (zd tX10_gatherDay 61 rfl) rfl ?_
        refine z_bipush C (by decide) (zd tX10_gatherDay 62 rfl) ?_
        refine z_imul C (zd tX10_gatherDay 63 rfl) ?_
        obtain ⟨t13, et13, Rt13, h⟩ := zn_some h
        refine z_nk 0 (congrArg zI et13.symm) rfl ?_
        obtain ⟨v14, r15, cv14, h⟩ := zcl_some h
        refine zc_V C ho hz hRm (qX2_hourAt _ _ _ _ (lk_7_0 ho ga3).1 Rt13 hv cv14) (lk_7_0 ho ga3) (by decide) rfl (zgV zwd_735 zwd_736 zwd_737 zwd_5 zwd_738) rfl pX2_hourAt rfl ⟨rfl, rfl⟩ ⟨Nat.le_of_ble_eq_true rfl, Nat.le_of_ble_eq_true rfl⟩ [] rfl (Nat.le_of_ble_eq_true rfl) (zd tX10_gatherDay 64 rfl) [zi r15] rfl (fun p16 => ?_)
        refine z_istore C (zd tX10_gatherDay 65 rfl) (by rw [hN]; decide) ?_
        refine z_aload_n C (zd tX10_gatherDay 66 rfl) rfl ?_
        refine gl_10_0 (t := 127) C (lg_126 ho) zic_10 (zm zwd_348) (vl_10_0 ho p16.1 (lg_126 ho)) (zd tX10_gatherDay 67 rfl) ?_
        refine z_aload_n C (zd tX10_gatherDay 68 rfl) rfl ?_
        refine gf_10_3 C (lg_126 ho) zic_10 (zm zwd_356) (zd tX10_gatherDay 69 rfl) ?_
        refine z_iload C (zd tX10_gatherDay 70 rfl) rfl ?_
        obtain ⟨q17, h⟩ := zck_some h
        obtain ⟨v18, ev18, h⟩ := zb_some h
        have hv18 : zV 0 137 v18 := by rw [ev18]; exact p16.1.st Rx12 (lg_127 ho).1 (Or.inr rfl)
        refine za_iast C (lg_127 ho) rfl (by decide) q17 ev18 (zd tX10_gatherDay 71 rfl) ?_
        refine z_aload_n C (zd tX10_gatherDay 72 rfl) rfl ?_
        refine gl_10_1 (t := 128) C (lg_126 ho) zic_10 (zm zwd_350) (vl_10_1 ho hv18 (lg_126 ho)) (zd tX10_gatherDay 73 rfl) ?_
        refine z_aload_n C (zd tX10_gatherDay 74 rfl) rfl ?_
        refine gf_10_3 C (lg_126 ho) zic_10 (zm zwd_356) (zd tX10_gatherDay 75 rfl) ?_
        refine z_aload_n C (zd tX10_gatherDay 76 rfl) rfl ?_
        refine z_iload C (zd tX10_gatherDay 77 rfl) rfl ?_
        refine z_aload_n C (zd tX10_gatherDay 78 rfl) rfl ?_
        refine gf_10_3 C (lg_126 ho) zic_10 (zm zwd_356) (zd tX10_gatherDay 79 rfl) ?_
        refine z_iload C (zd tX10_gatherDay 80 rfl) rfl ?_
        refine z_isub C (zd tX10_gatherDay 81 rfl) ?_
        refine z_iload C (zd tX10_gatherDay 82 rfl) rfl ?_
        refine z_iload C (zd tX10_gatherDay 83 rfl) rfl ?_
        obtain ⟨t19, et19, Rt19, h⟩ := zn_some h
        refine z_nk 2 (congrArg zI et19.symm) rfl ?_
        obtain ⟨v20, r21, cv20, h⟩ := zcl_some h
        refine zc_V C ho hz hRm (qX7_steadyBits _ _ _ _ ga3.1 p16.2 Rt19 Rx5 Rx6 hv18 cv20) ga3 (by decide) rfl (zgV zwd_740 zwd_741 zwd_742 zwd_4 zwd_743) rfl pX7_steadyBits rfl ⟨rfl, rfl⟩ ⟨Nat.le_of_ble_eq_true rfl, Nat.le_of_ble_eq_true rfl⟩ [zi (v18 126 3), zr 128] rfl (Nat.le_of_ble_eq_true rfl) (zd tX10_gatherDay 84 rfl) [zi r21, zi (v18 126 3), zr 128] rfl (fun p22 => ?_)
        refine z_iload C (zd tX10_gatherDay 85 rfl) rfl ?_
        refine z_iand C (zd tX10_gatherDay 86 rfl) ?_
        obtain ⟨q23, h⟩ := zck_some h
        obtain ⟨v24, ev24, h⟩ := zb_some h
        have hv24 : zV 0 137 v24 := by rw [ev24]; exact p22.1.st (zR_and _ _) (lg_128 ho).1 (Or.inr rfl)
        refine za_iast C (lg_128 ho) rfl (by decide) q23 ev24 (zd tX10_gatherDay 87 rfl) ?_
        refine z_aload_n C (zd tX10_gatherDay 88 rfl) rfl ?_
        refine z_dup C (zd tX10_gatherDay 89 rfl) ?_
        refine gf_10_3 C (lg_126 ho) zic_10 (zm zwd_356) (zd tX10_gatherDay 90 rfl) ?_
        refine z_iconst C (zd tX10_gatherDay 91 rfl) ?_
        refine z_iadd C (zd tX10_gatherDay 92 rfl) ?_
        obtain ⟨t25, et25, Rt25, h⟩ := zn_some h
        refine z_n0 (congrArg zI et25.symm) ?_
        obtain ⟨v26, ev26, h⟩ := zb_some h
        have hv26 : zV 0 137 v26 := by rw [ev26]; exact hv24.st Rt25 (lg_126 ho).1 (Or.inr rfl)
        refine pf_10_3 C (lg_126 ho) zic_10 (zm zwd_356) ev26 (zd tX10_gatherDay 93 rfl) ?_
        obtain ⟨t27, et27, Rt27, h⟩ := zn_some h
        refine z_iincE C (zd tX10_gatherDay 94 rfl) (by rw [hN]; decide) rfl et27 ?_
        refine z_goto (tgt := 100) C (zd tX10_gatherDay 95 rfl) (by decide) ?_
        refine z_sub (lo' := [some (zr 126), none, some (zr a2), some (zr a3), some (zi x4), some (zi x5), some (zi x6), some (zi x7), some (zi x8), some (zi x9), some (zi x10), some (zi x11), some (zi t27), none]) (zsub_s (zsub_n (zsub_s (zsub_s (zsub_s (zsub_s (zsub_s (zsub_s (zsub_s (zsub_s (zsub_s (zsub_s (zsub_s (zsub_n zsub_0)))))))))))))) ?_
        exact ih v26 a2 a3 x4 x5 x6 x7 x8 x9 x10 x11 t27 _ h hv26 ga2 ga3 Rx4 Rx5 Rx6 Rx7 Rx8 Rx9 Rx10 Rx11 Rt27 K1
set_option maxRecDepth 100000 in
set_option maxHeartbeats 4000000 in
theorem bX10_gatherDay_L63 {E : zE} (C : zC E 137 cX10_gatherDay RX10 vsX10_gatherDay) (hN : zEN E = 14) (ho : zEo E = 0) (hz : zEz E = False) (hRm : zER E = rmX10_gatherDay) : ∀ (fu : Nat) (v : zHp) (a2 : Nat) (a3 : Nat) (x4 : Int) (x5 : Int) (x6 : Int) (x7 : Int) (x8 : Int) (x9 : Int) (x10 : Int) (res : (zHp × (Int))), fX10_gatherDay_L63 fu v a2 a3 x4 x5 x6 x7 x8 x9 x10 = some res → zV 0 137 v → zG E 137 a2 4 3 → zG E 137 a3 7 10 → zR x4 → zR x5 → zR x6 → zR x7 → zR x8 → zR x9 → zR x10 → (∀ (w : zHp) (q : Int), res = (w, q) → zV 0 137 w → True → zX E 0 0 137 w 193 [none, none, none, none, none, none, none, none, none, none, none, none, none, none] []) → zX E 0 0 137 v 63 [some (zr 126), none, some (zr a2), some (zr a3), some (zi x4), some (zi x5), some (zi x6), some (zi x7), some (zi x8), some (zi x9), some (zi x10), none, none, none] [] := by
  intro fu
  induction fu with
  | zero =>
    intro v _ _ _ _ _ _ _ _ _ res h
    cases h
  | succ fu ih =>
    intro v a2 a3 x4 x5 x6 x7 x8 x9 x10 res h hv ga2 ga3 Rx4 Rx5 Rx6 Rx7 Rx8 Rx9 Rx10 K1
    rw [fX10_gatherDay_L63.eq_2] at h
    refine z_iload C (zd tX10_gatherDay 34 rfl) rfl ?_
    refine z_aload_n C (zd tX10_gatherDay 35 rfl) rfl ?_
    refine gf_4_2 C ga2 zic_4 (zm zwd_248) (zd tX10_gatherDay 36 rfl) ?_
    refine z_icmp_ge (tgt := 193) C Rx10 (hv.1 _ _) (zd tX10_gatherDay 37 rfl) (by decide) h (fun h => ?_) (fun h => ?_)
    · refine z_sub (lo' := [none, none, none, none, none, none, none, none, none, none, none, none, none, none]) (zsub_n (zsub_n (zsub_n (zsub_n (zsub_n (zsub_n (zsub_n (zsub_n (zsub_n (zsub_n (zsub_n (zsub_n (zsub_n (zsub_n zsub_0)))))))))))))) ?_
      exact K1 _ _ (Option.some.inj h).symm hv trivial
    · refine z_aload_n C (zd tX10_gatherDay 38 rfl) rfl ?_
      refine gl_4_1 C ga2 zic_4 (zm zwd_245) (vl_4_1 ho hv ga2) (zd tX10_gatherDay 39 rfl) ?_
      refine z_iload C (zd tX10_gatherDay 40 rfl) rfl ?_
      obtain ⟨q11, h⟩ := zck_some h
      refine za_iald C (lk_4_1 ho ga2) rfl (by decide) q11 (zd tX10_gatherDay 41 rfl) ?_
      refine z_iload C (zd tX10_gatherDay 42 rfl) rfl ?_
      refine z_min C hRm (hv.1 _ _) Rx8 ⟨(zm zwd_733), (zm zwd_457), (zm zwd_14), (zm zwd_458)⟩ ⟨Nat.le_of_ble_eq_true rfl, Nat.le_of_ble_eq_true rfl, Nat.zero_le _, Nat.zero_le _⟩ (zd tX10_gatherDay 43 rfl) ?_
      refine z_istore C (zd tX10_gatherDay 44 rfl) (by rw [hN]; decide) ?_
      refine z_aload_n C (zd tX10_gatherDay 45 rfl) rfl ?_
      refine gl_4_0 C ga2 zic_4 (zm zwd_243) (vl_4_0 ho hv ga2) (zd tX10_gatherDay 46 rfl) ?_
      refine z_iload C (zd tX10_gatherDay 47 rfl) rfl ?_
      obtain ⟨q12, h⟩ := zck_some h
      refine za_iald C (lk_4_0 ho ga2) rfl (by decide) q12 (zd tX10_gatherDay 48 rfl) ?_
      refine z_iload C (zd tX10_gatherDay 49 rfl) rfl ?_
      refine z_max C hRm (hv.1 _ _) Rx7 ⟨(zm zwd_734), (zm zwd_712), (zm zwd_14), (zm zwd_713)⟩ ⟨Nat.le_of_ble_eq_true rfl, Nat.le_of_ble_eq_true rfl, Nat.zero_le _, Nat.zero_le _⟩ (zd tX10_gatherDay 50 rfl) ?_
      refine z_istore C (zd tX10_gatherDay 51 rfl) (by rw [hN]; decide) ?_
      refine z_sub (lo' := [some (zr 126), none, some (zr a2), some (zr a3), some (zi x4), some (zi x5), some (zi x6), some (zi x7), some (zi x8), some (zi x9), some (zi x10), some (zi (min (v (a2 + 2) x10) x8)), some (zi (max (v (a2 + 1) x10) x7)), none]) (zsub_s (zsub_n (zsub_s (zsub_s (zsub_s (zsub_s (zsub_s (zsub_s (zsub_s (zsub_s (zsub_s (zsub_s (zsub_s (zsub_n zsub_0)))))))))))))) ?_
      obtain ⟨v28, w29, lv28, h⟩ := zl_some h
      refine bX10_gatherDay_L100 C hN ho hz hRm zFU v a2 a3 x4 x5 x6 x7 x8 x9 x10 (min (v (a2 + 2) x10) x8) (max (v (a2 + 1) x10) x7) _ lv28 hv ga2 ga3 Rx4 Rx5 Rx6 Rx7 Rx8 Rx9 Rx10 (zR_min (hv.1 _ _) Rx8) (zR_max (hv.1 _ _) Rx7) (fun w1 q1 e1 hv28 Rw29 => ?_)
      obtain ⟨rfl, rfl⟩ := zpp e1
      obtain ⟨t30, et30, Rt30, h⟩ := zn_some h
      refine z_iincE C (zd tX10_gatherDay 96 rfl) (by rw [hN]; decide) rfl et30 ?_
      refine z_goto (tgt := 63) C (zd tX10_gatherDay 97 rfl) (by decide) ?_
      refine z_sub (lo' := [some (zr 126), none, some (zr a2), some (zr a3), some (zi x4), some (zi x5), some (zi x6), some (zi x7), some (zi x8), some (zi x9), some (zi t30), none, none, none]) (zsub_s (zsub_n (zsub_s (zsub_s (zsub_s (zsub_s (zsub_s (zsub_s (zsub_s (zsub_s (zsub_s (zsub_n (zsub_n (zsub_n zsub_0)))))))))))))) ?_
      exact ih v28 a2 a3 x4 x5 x6 x7 x8 x9 t30 _ h hv28 ga2 ga3 Rx4 Rx5 Rx6 Rx7 Rx8 Rx9 Rt30 K1
set_option maxRecDepth 100000 in
set_option maxHeartbeats 4000000 in
theorem jX10_gatherDay_J23 {E : zE} (C : zC E 137 cX10_gatherDay RX10 vsX10_gatherDay) (hN : zEN E = 14) (ho : zEo E = 0) (hz : zEz E = False) (hRm : zER E = rmX10_gatherDay) {v' : zHp} {r' : Int} (ret : zRet E cX10_gatherDay 0 0 137 none (zV 0 137 v') none v') (v : zHp) (x1 : Int) (a2 : Nat) (a3 : Nat) (x4 : Int) (s0 : Int) (h : fX10_gatherDay_J23 v x1 a2 a3 x4 s0 = some (v', r')) (hv : zV 0 137 v) (Rx1 : zR x1) (ga2 : zG E 137 a2 4 3) (ga3 : zG E 137 a3 7 10) (Rx4 : zR x4) (Rs0 : zR s0) : zX E 0 0 137 v 23 [some (zr 126), some (zi x1), some (zr a2), some (zr a3), some (zi x4), none, none, none, none, none, none, none, none, none] [zi s0] := by
  unfold fX10_gatherDay_J23 at h
  refine z_istore C (zd tX10_gatherDay 12 rfl) (by rw [hN]; decide) ?_
  refine z_aload_n C (zd tX10_gatherDay 13 rfl) rfl ?_
  refine z_iload_n C (zd tX10_gatherDay 14 rfl) rfl ?_
  obtain ⟨v1, r2, cv1, h⟩ := zcl_some h
  refine zc_V C ho hz hRm (qX7_isHoliday _ _ _ _ ga3.1 Rx1 hv cv1) ga3 (by decide) rfl (zgV zwd_731 zwd_560 zwd_561 zwd_4 zwd_562) rfl pX7_isHoliday rfl ⟨rfl, rfl⟩ ⟨Nat.le_of_ble_eq_true rfl, Nat.le_of_ble_eq_true rfl⟩ [] rfl (Nat.le_of_ble_eq_true rfl) (zd tX10_gatherDay 15 rfl) [zi r2] rfl (fun p3 => ?_)
  refine z_istore C (zd tX10_gatherDay 16 rfl) (by rw [hN]; decide) ?_
  refine z_aload_n C (zd tX10_gatherDay 17 rfl) rfl ?_
  refine gl_7_0 C ga3 zic_7 (zm zwd_149) (vl_7_0 ho p3.1 ga3) (zd tX10_gatherDay 18 rfl) ?_
  refine z_iload_n C (zd tX10_gatherDay 19 rfl) rfl ?_
  obtain ⟨v4, r5, cv4, h⟩ := zcl_some h
  refine zc_V C ho hz hRm (qX2_quartersAhead _ _ _ _ (lk_7_0 ho ga3).1 Rx1 p3.1 cv4) (lk_7_0 ho ga3) (by decide) rfl (zgV zwd_732 zwd_694 zwd_695 zwd_5 zwd_696) rfl pX2_quartersAhead rfl ⟨rfl, rfl⟩ ⟨Nat.le_of_ble_eq_true rfl, Nat.le_of_ble_eq_true rfl⟩ [] rfl (Nat.le_of_ble_eq_true rfl) (zd tX10_gatherDay 20 rfl) [zi r5] rfl (fun p6 => ?_)
  refine z_istore C (zd tX10_gatherDay 21 rfl) (by rw [hN]; decide) ?_
  refine z_aload_n C (zd tX10_gatherDay 22 rfl) rfl ?_
  refine gl_7_0 C ga3 zic_7 (zm zwd_149) (vl_7_0 ho p6.1 ga3) (zd tX10_gatherDay 23 rfl) ?_
  refine z_iload_n C (zd tX10_gatherDay 24 rfl) rfl ?_
  refine z_iconst C (zd tX10_gatherDay 25 rfl) ?_
  refine z_iadd C (zd tX10_gatherDay 26 rfl) ?_
  obtain ⟨t7, et7, Rt7, h⟩ := zn_some h
  refine z_nk 0 (congrArg zI et7.symm) rfl ?_
  obtain ⟨v8, r9, cv8, h⟩ := zcl_some h
  refine zc_V C ho hz hRm (qX2_quartersAhead _ _ _ _ (lk_7_0 ho ga3).1 Rt7 p6.1 cv8) (lk_7_0 ho ga3) (by decide) rfl (zgV zwd_732 zwd_694 zwd_695 zwd_5 zwd_696) rfl pX2_quartersAhead rfl ⟨rfl, rfl⟩ ⟨Nat.le_of_ble_eq_true rfl, Nat.le_of_ble_eq_true rfl⟩ [] rfl (Nat.le_of_ble_eq_true rfl) (zd tX10_gatherDay 27 rfl) [zi r9] rfl (fun p10 => ?_)
  refine z_istore C (zd tX10_gatherDay 28 rfl) (by rw [hN]; decide) ?_
  refine z_aload_n C (zd tX10_gatherDay 29 rfl) rfl ?_
  refine gf_10_3 C (lg_126 ho) zic_10 (zm zwd_356) (zd tX10_gatherDay 30 rfl) ?_
  refine z_istore C (zd tX10_gatherDay 31 rfl) (by rw [hN]; decide) ?_
  refine z_iconst C (zd tX10_gatherDay 32 rfl) ?_
  refine z_istore C (zd tX10_gatherDay 33 rfl) (by rw [hN]; decide) ?_
  refine z_sub (lo' := [some (zr 126), none, some (zr a2), some (zr a3), some (zi x4), some (zi s0), some (zi r2), some (zi r5), some (zi r9), some (zi (v8 126 3)), some (zi 0), none, none, none]) (zsub_s (zsub_n (zsub_s (zsub_s (zsub_s (zsub_s (zsub_s (zsub_s (zsub_s (zsub_s (zsub_s (zsub_n (zsub_n (zsub_n zsub_0)))))))))))))) ?_
  obtain ⟨v31, w32, lv31, h⟩ := zl_some h
  refine bX10_gatherDay_L63 C hN ho hz hRm zFU v8 a2 a3 x4 s0 r2 r5 r9 (v8 126 3) 0 _ lv31 p10.1 ga2 ga3 Rx4 Rs0 p3.2 p6.2 p10.2 (p10.1.1 _ _) (zR_c 0 rfl) (fun w1 q1 e1 hv31 Rw32 => ?_)
  obtain ⟨rfl, rfl⟩ := zpp e1
  obtain ⟨rfl, rfl⟩ := zpi h
  exact ret.2.1 _ _ hv31 rfl rfl (zd tX10_gatherDay 98 rfl)
set_option maxRecDepth 100000 in
set_option maxHeartbeats 4000000 in
theorem jX10_gatherDay_J22 {E : zE} (C : zC E 137 cX10_gatherDay RX10 vsX10_gatherDay) (hN : zEN E = 14) (ho : zEo E = 0) (hz : zEz E = False) (hRm : zER E = rmX10_gatherDay) {v' : zHp} {r' : Int} (ret : zRet E cX10_gatherDay 0 0 137 none (zV 0 137 v') none v') (v : zHp) (x1 : Int) (a2 : Nat) (a3 : Nat) (x4 : Int) (h : fX10_gatherDay_J22 v x1 a2 a3 x4 = some (v', r')) (hv : zV 0 137 v) (Rx1 : zR x1) (ga2 : zG E 137 a2 4 3) (ga3 : zG E 137 a3 7 10) (Rx4 : zR x4) : zX E 0 0 137 v 22 [some (zr 126), some (zi x1), some (zr a2), some (zr a3), some (zi x4), none, none, none, none, none, none, none, none, none] [] := by
  unfold fX10_gatherDay_J22 at h
  refine z_iconst C (zd tX10_gatherDay 11 rfl) ?_
  refine z_sub (lo' := [some (zr 126), some (zi x1), some (zr a2), some (zr a3), some (zi x4), none, none, none, none, none, none, none, none, none]) (zsub_s (zsub_s (zsub_s (zsub_s (zsub_s (zsub_n (zsub_n (zsub_n (zsub_n (zsub_n (zsub_n (zsub_n (zsub_n (zsub_n zsub_0)))))))))))))) ?_
  exact jX10_gatherDay_J23 C hN ho hz hRm ret v x1 a2 a3 x4 0 h hv Rx1 ga2 ga3 Rx4 (zR_c 0 rfl)
set_option maxRecDepth 100000 in
set_option maxHeartbeats 4000000 in
theorem qX10_gatherDay (l : Launch) (D : va_G) (ids : Nat → ClassId) (b : Nat) {x1 : Int} (Rx1 : zR x1) {a2 : Nat} (k2 : zK a2 = (4, 3)) {a3 : Nat} (k3 : zK a3 = (7, 10)) {x4 : Int} (Rx4 : zR x4) {v v' : zHp} {r' : Int} (hv : zV 0 137 v) (h : fX10_gatherDay v x1 a2 a3 x4 = some (v', r')) : zCT l yX10_gatherDay vsX10_gatherDay rmX10_gatherDay D ids b 0 False 137 [zr 126, zi x1, zr a2, zr a3, zi x4] v 137 (zV 0 137 v') none v' 0 0 := by
  refine zMet (own := RX10) (by decide +kernel) (show vsX10_gatherDay = _ from rfl) (Nat.le_of_ble_eq_true rfl) rfl ?_
  intro E hl hRm hD hids hb ho hz hN C hname ret
  subst hl hD hids hb
  have ga2 := kg_4 ho k2
  have ga3 := kg_7 ho k3
  unfold fX10_gatherDay at h
  refine z_iload_n C (zd tX10_gatherDay 0 rfl) rfl ?_
  refine z_bipush C (by decide) (zd tX10_gatherDay 1 rfl) ?_
  refine z_irem C Rx1 (by decide) (zR_c 7 rfl) (zd tX10_gatherDay 2 rfl) ?_
  refine z_bipush C (by decide) (zd tX10_gatherDay 3 rfl) ?_
  refine z_icmp_ne (tgt := 22) C (zR_mod (by decide) (zR_c 7 rfl)) (zR_c 6 rfl) (zd tX10_gatherDay 4 rfl) (by decide) h (fun h => ?_) (fun h => ?_)
  · refine z_sub (lo' := [some (zr 126), some (zi x1), some (zr a2), some (zr a3), some (zi x4), none, none, none, none, none, none, none, none, none]) (zsub_s (zsub_s (zsub_s (zsub_s (zsub_s (zsub_n (zsub_n (zsub_n (zsub_n (zsub_n (zsub_n (zsub_n (zsub_n (zsub_n zsub_0)))))))))))))) ?_
    exact jX10_gatherDay_J22 C hN ho hz hRm ret v x1 a2 a3 x4 h hv Rx1 ga2 ga3 Rx4
  · refine z_aload_n C (zd tX10_gatherDay 5 rfl) rfl ?_
    refine gf_10_4 C (lg_126 ho) zic_10 (zm zwd_359) (zd tX10_gatherDay 6 rfl) ?_
    refine z_bipush C (by decide) (zd tX10_gatherDay 7 rfl) ?_
    refine z_icmp_ne (tgt := 22) C (hv.1 _ _) (zR_c 6 rfl) (zd tX10_gatherDay 8 rfl) (by decide) h (fun h => ?_) (fun h => ?_)
    · refine z_sub (lo' := [some (zr 126), some (zi x1), some (zr a2), some (zr a3), some (zi x4), none, none, none, none, none, none, none, none, none]) (zsub_s (zsub_s (zsub_s (zsub_s (zsub_s (zsub_n (zsub_n (zsub_n (zsub_n (zsub_n (zsub_n (zsub_n (zsub_n (zsub_n zsub_0)))))))))))))) ?_
      exact jX10_gatherDay_J22 C hN ho hz hRm ret v x1 a2 a3 x4 h hv Rx1 ga2 ga3 Rx4
    · refine z_iconst C (zd tX10_gatherDay 9 rfl) ?_
      refine z_goto (tgt := 23) C (zd tX10_gatherDay 10 rfl) (by decide) ?_
      refine z_sub (lo' := [some (zr 126), some (zi x1), some (zr a2), some (zr a3), some (zi x4), none, none, none, none, none, none, none, none, none]) (zsub_s (zsub_s (zsub_s (zsub_s (zsub_s (zsub_n (zsub_n (zsub_n (zsub_n (zsub_n (zsub_n (zsub_n (zsub_n (zsub_n zsub_0)))))))))))))) ?_
      exact jX10_gatherDay_J23 C hN ho hz hRm ret v x1 a2 a3 x4 1 h hv Rx1 ga2 ga3 Rx4 (zR_c 1 rfl)
noncomputable def vsX10_gather : List Cond := .code yX10_gather cX10_gather 7 none :: zbig
abbrev rmX10_gather : Room := { frames := 3, cells := 0, slots := 0, locals := 83 }
theorem pX10_gather : yX10_gather.cls = RX10 ∧ yX10_gather.cls ≠ "java/lang/invoke/MethodHandle" ∧ yX10_gather.cls ≠ "java/lang/invoke/VarHandle" ∧ (parseMethodDescriptor yX10_gather.desc).map (fun d => d.parameters.length) = some 4 := by decide +kernel
set_option maxRecDepth 100000 in
set_option maxHeartbeats 4000000 in
theorem bX10_gather_L16 {E : zE} (C : zC E 137 cX10_gather RX10 vsX10_gather) (hN : zEN E = 7) (ho : zEo E = 0) (hz : zEz E = False) (hRm : zER E = rmX10_gather) : ∀ (fu : Nat) (v : zHp) (x1 : Int) (a2 : Nat) (a3 : Nat) (x4 : Int) (x5 : Int) (res : (zHp × (Int))), fX10_gather_L16 fu v x1 a2 a3 x4 x5 = some res → zV 0 137 v → zR x1 → zG E 137 a2 4 3 → zG E 137 a3 7 10 → zR x4 → zR x5 → (∀ (w : zHp) (q : Int), res = (w, q) → zV 0 137 w → True → zX E 0 0 137 w 69 [none, none, none, none, none, none, none] []) → zX E 0 0 137 v 16 [some (zr 126), some (zi x1), some (zr a2), some (zr a3), some (zi x4), some (zi x5), none] [] := by
  intro fu
  induction fu with
  | zero =>
    intro v _ _ _ _ _ res h
    cases h
  | succ fu ih =>
    intro v x1 a2 a3 x4 x5 res h hv Rx1 ga2 ga3 Rx4 Rx5 K1
    rw [fX10_gather_L16.eq_2] at h
    refine z_iload C (zd tX10_gather 10 rfl) rfl ?_
    refine z_iload_n C (zd tX10_gather 11 rfl) rfl ?_
    refine z_bipush C (by decide) (zd tX10_gather 12 rfl) ?_
    refine z_imul C (zd tX10_gather 13 rfl) ?_
    refine z_bipush C (by decide) (zd tX10_gather 14 rfl) ?_
    refine z_iadd C (zd tX10_gather 15 rfl) ?_
    obtain ⟨t4, et4, Rt4, h⟩ := zn_some h
    refine z_n0 (congrArg zI et4.symm) ?_
    refine z_icmp_ge (tgt := 69) C Rx5 Rt4 (zd tX10_gather 16 rfl) (by decide) h (fun h => ?_) (fun h => ?_)
    · refine z_sub (lo' := [none, none, none, none, none, none, none]) (zsub_n (zsub_n (zsub_n (zsub_n (zsub_n (zsub_n (zsub_n zsub_0))))))) ?_
      exact K1 _ _ (Option.some.inj h).symm hv trivial
    · refine z_aload_n C (zd tX10_gather 17 rfl) rfl ?_
      refine gf_10_3 C (lg_126 ho) zic_10 (zm zwd_356) (zd tX10_gather 18 rfl) ?_
      refine z_istore C (zd tX10_gather 19 rfl) (by rw [hN]; decide) ?_
      refine z_aload_n C (zd tX10_gather 20 rfl) rfl ?_
      refine z_iload C (zd tX10_gather 21 rfl) rfl ?_
      refine z_aload_n C (zd tX10_gather 22 rfl) rfl ?_
      refine z_aload_n C (zd tX10_gather 23 rfl) rfl ?_
      refine z_iload C (zd tX10_gather 24 rfl) rfl ?_
      obtain ⟨v5, r6, cv5, h⟩ := zcl_some h
      refine zc_V C ho hz hRm (qX10_gatherDay _ _ _ _ Rx5 ga2.1 ga3.1 Rx4 hv cv5) (lg_126 ho) (by decide) rfl (zgV zwd_727 zwd_729 zws_18 zwd_12 zwd_730) rfl pX10_gatherDay rfl ⟨rfl, rfl⟩ ⟨Nat.le_of_ble_eq_true rfl, Nat.le_of_ble_eq_true rfl⟩ [] rfl (Nat.le_of_ble_eq_true rfl) (zd tX10_gather 25 rfl) [] rfl (fun p7 => ?_)
      refine z_aload_n C (zd tX10_gather 26 rfl) rfl ?_
      refine gf_10_3 C (lg_126 ho) zic_10 (zm zwd_356) (zd tX10_gather 27 rfl) ?_
      refine z_iload C (zd tX10_gather 28 rfl) rfl ?_
      refine z_icmp_le (tgt := 63) C (p7.1 _ _) (hv.1 _ _) (zd tX10_gather 29 rfl) (by decide) h (fun h => ?_) (fun h => ?_)
      · obtain ⟨t8, et8, Rt8, h⟩ := zn_some h
        refine z_iincE C (zd tX10_gather 36 rfl) (by rw [hN]; decide) rfl et8 ?_
        refine z_goto (tgt := 16) C (zd tX10_gather 37 rfl) (by decide) ?_
        refine z_sub (lo' := [some (zr 126), some (zi x1), some (zr a2), some (zr a3), some (zi x4), some (zi t8), none]) (zsub_s (zsub_s (zsub_s (zsub_s (zsub_s (zsub_s (zsub_n zsub_0))))))) ?_
        exact ih v5 x1 a2 a3 x4 t8 _ h p7 Rx1 ga2 ga3 Rx4 Rt8 K1
      · refine z_aload_n C (zd tX10_gather 30 rfl) rfl ?_
        refine z_dup C (zd tX10_gather 31 rfl) ?_
        refine gf_10_4 C (lg_126 ho) zic_10 (zm zwd_359) (zd tX10_gather 32 rfl) ?_
        refine z_iconst C (zd tX10_gather 33 rfl) ?_
        refine z_iadd C (zd tX10_gather 34 rfl) ?_
        obtain ⟨t9, et9, Rt9, h⟩ := zn_some h
        refine z_n0 (congrArg zI et9.symm) ?_
        obtain ⟨v10, ev10, h⟩ := zb_some h
        have hv10 : zV 0 137 v10 := by rw [ev10]; exact p7.st Rt9 (lg_126 ho).1 (Or.inr rfl)
        refine pf_10_4 C (lg_126 ho) zic_10 (zm zwd_359) ev10 (zd tX10_gather 35 rfl) ?_
        obtain ⟨t11, et11, Rt11, h⟩ := zn_some h
        refine z_iincE C (zd tX10_gather 36 rfl) (by rw [hN]; decide) rfl et11 ?_
        refine z_goto (tgt := 16) C (zd tX10_gather 37 rfl) (by decide) ?_
        refine z_sub (lo' := [some (zr 126), some (zi x1), some (zr a2), some (zr a3), some (zi x4), some (zi t11), none]) (zsub_s (zsub_s (zsub_s (zsub_s (zsub_s (zsub_s (zsub_n zsub_0))))))) ?_
        exact ih v10 x1 a2 a3 x4 t11 _ h hv10 Rx1 ga2 ga3 Rx4 Rt11 K1
set_option maxRecDepth 100000 in
set_option maxHeartbeats 4000000 in
theorem qX10_gather (l : Launch) (D : va_G) (ids : Nat → ClassId) (b : Nat) {x1 : Int} (Rx1 : zR x1) {a2 : Nat} (k2 : zK a2 = (4, 3)) {a3 : Nat} (k3 : zK a3 = (7, 10)) {x4 : Int} (Rx4 : zR x4) {v v' : zHp} {r' : Int} (hv : zV 0 137 v) (h : fX10_gather v x1 a2 a3 x4 = some (v', r')) : zCT l yX10_gather vsX10_gather rmX10_gather D ids b 0 False 137 [zr 126, zi x1, zr a2, zr a3, zi x4] v 137 (zV 0 137 v') none v' 0 0 := by
  refine zMet (own := RX10) (by decide +kernel) (show vsX10_gather = _ from rfl) (Nat.le_of_ble_eq_true rfl) rfl ?_
  intro E hl hRm hD hids hb ho hz hN C hname ret
  subst hl hD hids hb
  have ga2 := kg_4 ho k2
  have ga3 := kg_7 ho k3
  unfold fX10_gather at h
  refine z_aload_n C (zd tX10_gather 0 rfl) rfl ?_
  refine z_iconst C (zd tX10_gather 1 rfl) ?_
  obtain ⟨v1, ev1, h⟩ := zb_some h
  have hv1 : zV 0 137 v1 := by rw [ev1]; exact hv.st (zR_c 0 rfl) (lg_126 ho).1 (Or.inr rfl)
  refine pf_10_3 C (lg_126 ho) zic_10 (zm zwd_356) ev1 (zd tX10_gather 2 rfl) ?_
  refine z_aload_n C (zd tX10_gather 3 rfl) rfl ?_
  refine z_iconst C (zd tX10_gather 4 rfl) ?_
  obtain ⟨v2, ev2, h⟩ := zb_some h
  have hv2 : zV 0 137 v2 := by rw [ev2]; exact hv1.st (zR_c 0 rfl) (lg_126 ho).1 (Or.inr rfl)
  refine pf_10_4 C (lg_126 ho) zic_10 (zm zwd_359) ev2 (zd tX10_gather 5 rfl) ?_
  refine z_iload_n C (zd tX10_gather 6 rfl) rfl ?_
  refine z_bipush C (by decide) (zd tX10_gather 7 rfl) ?_
  refine z_imul C (zd tX10_gather 8 rfl) ?_
  obtain ⟨t3, et3, Rt3, h⟩ := zn_some h
  refine z_n0 (congrArg zI et3.symm) ?_
  refine z_istore C (zd tX10_gather 9 rfl) (by rw [hN]; decide) ?_
  refine z_sub (lo' := [some (zr 126), some (zi x1), some (zr a2), some (zr a3), some (zi x4), some (zi t3), none]) (zsub_s (zsub_s (zsub_s (zsub_s (zsub_s (zsub_s (zsub_n zsub_0))))))) ?_
  obtain ⟨v12, w13, lv12, h⟩ := zl_some h
  refine bX10_gather_L16 C hN ho hz hRm zFU v2 x1 a2 a3 x4 t3 _ lv12 hv2 Rx1 ga2 ga3 Rx4 Rt3 (fun w1 q1 e1 hv12 Rw13 => ?_)
  obtain ⟨rfl, rfl⟩ := zpp e1
  obtain ⟨rfl, rfl⟩ := zpi h
  exact ret.2.1 _ _ hv12 rfl rfl (zd tX10_gather 38 rfl)
noncomputable def vsX7_dearestOf : List Cond := .code yX7_dearestOf cX7_dearestOf 4 (some .int) :: zbig
abbrev rmX7_dearestOf : Room := { frames := 1, cells := 0, slots := 0, locals := 21 }
theorem pX7_dearestOf : yX7_dearestOf.cls = RX7 ∧ yX7_dearestOf.cls ≠ "java/lang/invoke/MethodHandle" ∧ yX7_dearestOf.cls ≠ "java/lang/invoke/VarHandle" ∧ (parseMethodDescriptor yX7_dearestOf.desc).map (fun d => d.parameters.length) = some 1 := by decide +kernel
set_option maxRecDepth 100000 in
set_option maxHeartbeats 4000000 in
theorem bX7_dearestOf_L4 {E : zE} (C : zC E 137 cX7_dearestOf RX7 vsX7_dearestOf) (hN : zEN E = 4) (ho : zEo E = 0) (hz : zEz E = False) (hRm : zER E = rmX7_dearestOf) : ∀ (fu : Nat) (v : zHp) (a0 : Nat) (x1 : Int) (x2 : Int) (x3 : Int) (res : (zHp × (Int))), fX7_dearestOf_L4 fu v a0 x1 x2 x3 = some res → zV 0 137 v → zG E 137 a0 7 10 → zR x1 → zR x2 → zR x3 → (∀ (w : zHp) (q : Int), res = (w, q) → zV 0 137 w → zR q → zX E 0 0 137 w 41 [none, none, some (zi q), none] []) → zX E 0 0 137 v 4 [some (zr a0), some (zi x1), some (zi x2), some (zi x3)] [] := by
  intro fu
  induction fu with
  | zero =>
    intro v _ _ _ _ res h
    cases h
  | succ fu ih =>
    intro v a0 x1 x2 x3 res h hv ga0 Rx1 Rx2 Rx3 K1
    rw [fX7_dearestOf_L4.eq_2] at h
    refine z_iload_n C (zd tX7_dearestOf 4 rfl) rfl ?_
    refine z_aload_n C (zd tX7_dearestOf 5 rfl) rfl ?_
    refine gf_7_2 C ga0 zic_7 (zm zwd_157) (zd tX7_dearestOf 6 rfl) ?_
    refine z_icmp_ge (tgt := 41) C Rx3 (hv.1 _ _) (zd tX7_dearestOf 7 rfl) (by decide) h (fun h => ?_) (fun h => ?_)
    · refine z_sub (lo' := [none, none, some (zi x2), none]) (zsub_n (zsub_n (zsub_s (zsub_n zsub_0)))) ?_
      exact K1 _ _ (Option.some.inj h).symm hv Rx2
    · refine z_iload_n C (zd tX7_dearestOf 8 rfl) rfl ?_
      refine z_iload_n C (zd tX7_dearestOf 9 rfl) rfl ?_
      refine z_ishr C (zd tX7_dearestOf 10 rfl) ?_
      refine z_iconst C (zd tX7_dearestOf 11 rfl) ?_
      refine z_iand C (zd tX7_dearestOf 12 rfl) ?_
      refine z_if_eq (tgt := 35) C (zR_and _ _) (zd tX7_dearestOf 13 rfl) (by decide) h (fun h => ?_) (fun h => ?_)
      · obtain ⟨t1, et1, Rt1, h⟩ := zn_some h
        refine z_iincE C (zd tX7_dearestOf 23 rfl) (by rw [hN]; decide) rfl et1 ?_
        refine z_goto (tgt := 4) C (zd tX7_dearestOf 24 rfl) (by decide) ?_
        refine z_sub (lo' := [some (zr a0), some (zi x1), some (zi x2), some (zi t1)]) (zsub_s (zsub_s (zsub_s (zsub_s zsub_0)))) ?_
        exact ih v a0 x1 x2 t1 _ h hv ga0 Rx1 Rx2 Rt1 K1
      · refine z_aload_n C (zd tX7_dearestOf 14 rfl) rfl ?_
        refine z_iload_n C (zd tX7_dearestOf 15 rfl) rfl ?_
        obtain ⟨v2, r3, cv2, h⟩ := zcl_some h
        refine zc_V C ho hz hRm (qX7_hundredthsUnder _ _ _ _ ga0.1 Rx3 hv cv2) ga0 (by decide) rfl (zgV zwd_760 zwd_761 zwd_762 zwd_4 zwd_763) rfl pX7_hundredthsUnder rfl ⟨rfl, rfl⟩ ⟨Nat.le_of_ble_eq_true rfl, Nat.le_of_ble_eq_true rfl⟩ [] rfl (Nat.le_of_ble_eq_true rfl) (zd tX7_dearestOf 16 rfl) [zi r3] rfl (fun p4 => ?_)
        refine z_aload_n C (zd tX7_dearestOf 17 rfl) rfl ?_
        refine z_iload_n C (zd tX7_dearestOf 18 rfl) rfl ?_
        obtain ⟨v5, r6, cv5, h⟩ := zcl_some h
        refine zc_V C ho hz hRm (qX7_hundredthsUnder _ _ _ _ ga0.1 Rx2 p4.1 cv5) ga0 (by decide) rfl (zgV zwd_760 zwd_761 zwd_762 zwd_4 zwd_763) rfl pX7_hundredthsUnder rfl ⟨rfl, rfl⟩ ⟨Nat.le_of_ble_eq_true rfl, Nat.le_of_ble_eq_true rfl⟩ [zi r3] rfl (Nat.le_of_ble_eq_true rfl) (zd tX7_dearestOf 19 rfl) [zi r6, zi r3] rfl (fun p7 => ?_)
        refine z_icmp_le (tgt := 35) C p4.2 p7.2 (zd tX7_dearestOf 20 rfl) (by decide) h (fun h => ?_) (fun h => ?_)
        · obtain ⟨t8, et8, Rt8, h⟩ := zn_some h
          refine z_iincE C (zd tX7_dearestOf 23 rfl) (by rw [hN]; decide) rfl et8 ?_
          refine z_goto (tgt := 4) C (zd tX7_dearestOf 24 rfl) (by decide) ?_
          refine z_sub (lo' := [some (zr a0), some (zi x1), some (zi x2), some (zi t8)]) (zsub_s (zsub_s (zsub_s (zsub_s zsub_0)))) ?_
          exact ih v5 a0 x1 x2 t8 _ h p7.1 ga0 Rx1 Rx2 Rt8 K1
        · refine z_iload_n C (zd tX7_dearestOf 21 rfl) rfl ?_
          refine z_istore_n C (zd tX7_dearestOf 22 rfl) (by rw [hN]; decide) ?_
          obtain ⟨t9, et9, Rt9, h⟩ := zn_some h
          refine z_iincE C (zd tX7_dearestOf 23 rfl) (by rw [hN]; decide) rfl et9 ?_
          refine z_goto (tgt := 4) C (zd tX7_dearestOf 24 rfl) (by decide) ?_
          refine z_sub (lo' := [some (zr a0), some (zi x1), some (zi x3), some (zi t9)]) (zsub_s (zsub_s (zsub_s (zsub_s zsub_0)))) ?_
          exact ih v5 a0 x1 x3 t9 _ h p7.1 ga0 Rx1 Rx3 Rt9 K1
set_option maxRecDepth 100000 in
set_option maxHeartbeats 4000000 in
theorem qX7_dearestOf (l : Launch) (D : va_G) (ids : Nat → ClassId) (b : Nat) {a0 : Nat} (k0 : zK a0 = (7, 10)) {x1 : Int} (Rx1 : zR x1) {v v' : zHp} {r' : Int} (hv : zV 0 137 v) (h : fX7_dearestOf v a0 x1 = some (v', r')) : zCT l yX7_dearestOf vsX7_dearestOf rmX7_dearestOf D ids b 0 False 137 [zr a0, zi x1] v 137 (zV 0 137 v' ∧ zR r') (some (zi r')) v' 0 0 := by
  refine zMet (own := RX7) (by decide +kernel) (show vsX7_dearestOf = _ from rfl) (Nat.le_of_ble_eq_true rfl) rfl ?_
  intro E hl hRm hD hids hb ho hz hN C hname ret
  subst hl hD hids hb
  have ga0 := kg_7 ho k0
  unfold fX7_dearestOf at h
  refine z_iconst C (zd tX7_dearestOf 0 rfl) ?_
  refine z_istore_n C (zd tX7_dearestOf 1 rfl) (by rw [hN]; decide) ?_
  refine z_iconst C (zd tX7_dearestOf 2 rfl) ?_
  refine z_istore_n C (zd tX7_dearestOf 3 rfl) (by rw [hN]; decide) ?_
  refine z_sub (lo' := [some (zr a0), some (zi x1), some (zi (-1)), some (zi 0)]) (zsub_s (zsub_s (zsub_s (zsub_s zsub_0)))) ?_
  obtain ⟨v10, w11, lv10, h⟩ := zl_some h
  refine bX7_dearestOf_L4 C hN ho hz hRm zFU v a0 x1 (-1) 0 _ lv10 hv ga0 Rx1 (zR_c (-1) rfl) (zR_c 0 rfl) (fun w1 q1 e1 hv10 Rw11 => ?_)
  obtain ⟨rfl, rfl⟩ := zpp e1
  refine z_iload_n C (zd tX7_dearestOf 25 rfl) rfl ?_
  obtain ⟨rfl, rfl⟩ := zpi h
  exact ret.1 _ _ _ _ ⟨hv10, Rw11⟩ rfl rfl rfl (zd tX7_dearestOf 26 rfl)
noncomputable def vsX10_payAsTheyCome : List Cond := .code yX10_payAsTheyCome cX10_payAsTheyCome 5 none :: zbig
abbrev rmX10_payAsTheyCome : Room := { frames := 2, cells := 0, slots := 0, locals := 44 }
theorem pX10_payAsTheyCome : yX10_payAsTheyCome.cls = RX10 ∧ yX10_payAsTheyCome.cls ≠ "java/lang/invoke/MethodHandle" ∧ yX10_payAsTheyCome.cls ≠ "java/lang/invoke/VarHandle" ∧ (parseMethodDescriptor yX10_payAsTheyCome.desc).map (fun d => d.parameters.length) = some 2 := by decide +kernel
set_option maxRecDepth 100000 in
set_option maxHeartbeats 4000000 in
theorem bX10_payAsTheyCome_L5 {E : zE} (C : zC E 137 cX10_payAsTheyCome RX10 vsX10_payAsTheyCome) (hN : zEN E = 5) (ho : zEo E = 0) (hz : zEz E = False) (hRm : zER E = rmX10_payAsTheyCome) : ∀ (fu : Nat) (v : zHp) (a1 : Nat) (x2 : Int) (x3 : Int) (x4 : Int) (res : (zHp × (Int))), fX10_payAsTheyCome_L5 fu v a1 x2 x3 x4 = some res → zV 0 137 v → zG E 137 a1 7 10 → zR x2 → zR x3 → zR x4 → (∀ (w : zHp) (q : Int), res = (w, q) → zV 0 137 w → True → zX E 0 0 137 w 63 [none, none, none, none, none] []) → zX E 0 0 137 v 5 [some (zr 126), some (zr a1), some (zi x2), some (zi x3), some (zi x4)] [] := by
  intro fu
  induction fu with
  | zero =>
    intro v _ _ _ _ res h
    cases h
  | succ fu ih =>
    intro v a1 x2 x3 x4 res h hv ga1 Rx2 Rx3 Rx4 K1
    rw [fX10_payAsTheyCome_L5.eq_2] at h
    refine z_iload C (zd tX10_payAsTheyCome 4 rfl) rfl ?_
    refine z_aload_n C (zd tX10_payAsTheyCome 5 rfl) rfl ?_
    refine gf_10_3 C (lg_126 ho) zic_10 (zm zwd_356) (zd tX10_payAsTheyCome 6 rfl) ?_
    refine z_icmp_ge (tgt := 63) C Rx4 (hv.1 _ _) (zd tX10_payAsTheyCome 7 rfl) (by decide) h (fun h => ?_) (fun h => ?_)
    · refine z_sub (lo' := [none, none, none, none, none]) (zsub_n (zsub_n (zsub_n (zsub_n (zsub_n zsub_0))))) ?_
      exact K1 _ _ (Option.some.inj h).symm hv trivial
    · refine z_aload_n C (zd tX10_payAsTheyCome 8 rfl) rfl ?_
      refine gl_10_2 (t := 129) C (lg_126 ho) zic_10 (zm zwd_353) (vl_10_2 ho hv (lg_126 ho)) (zd tX10_payAsTheyCome 9 rfl) ?_
      refine z_iload C (zd tX10_payAsTheyCome 10 rfl) rfl ?_
      refine z_aload_n C (zd tX10_payAsTheyCome 11 rfl) rfl ?_
      refine z_aload_n C (zd tX10_payAsTheyCome 12 rfl) rfl ?_
      refine gl_10_1 (t := 128) C (lg_126 ho) zic_10 (zm zwd_350) (vl_10_1 ho hv (lg_126 ho)) (zd tX10_payAsTheyCome 13 rfl) ?_
      refine z_iload C (zd tX10_payAsTheyCome 14 rfl) rfl ?_
      obtain ⟨q1, h⟩ := zck_some h
      refine za_iald C (lg_128 ho) rfl (by decide) q1 (zd tX10_payAsTheyCome 15 rfl) ?_
      refine z_aload_n C (zd tX10_payAsTheyCome 16 rfl) rfl ?_
      refine z_iload_n C (zd tX10_payAsTheyCome 17 rfl) rfl ?_
      obtain ⟨v2, r3, cv2, h⟩ := zcl_some h
      refine zc_V C ho hz hRm (qX7_weekBits _ _ _ _ ga1.1 Rx3 hv cv2) ga1 (by decide) rfl (zgV zwd_752 zwd_753 zwd_754 zwd_4 zwd_755) rfl pX7_weekBits rfl ⟨rfl, rfl⟩ ⟨Nat.le_of_ble_eq_true rfl, Nat.le_of_ble_eq_true rfl⟩ [zi (v 128 x4), zr a1, zi x4, zr 129] rfl (Nat.le_of_ble_eq_true rfl) (zd tX10_payAsTheyCome 18 rfl) [zi r3, zi (v 128 x4), zr a1, zi x4, zr 129] rfl (fun p4 => ?_)
      refine z_iload_n C (zd tX10_payAsTheyCome 19 rfl) rfl ?_
      refine z_iand C (zd tX10_payAsTheyCome 20 rfl) ?_
      refine z_ior C (zd tX10_payAsTheyCome 21 rfl) ?_
      obtain ⟨v5, r6, cv5, h⟩ := zcl_some h
      refine zc_V C ho hz hRm (qX7_dearestOf _ _ _ _ ga1.1 (zR_or _ _) p4.1 cv5) ga1 (by decide) rfl (zgV zwd_756 zwd_757 zwd_758 zwd_4 zwd_759) rfl pX7_dearestOf rfl ⟨rfl, rfl⟩ ⟨Nat.le_of_ble_eq_true rfl, Nat.le_of_ble_eq_true rfl⟩ [zi x4, zr 129] rfl (Nat.le_of_ble_eq_true rfl) (zd tX10_payAsTheyCome 22 rfl) [zi r6, zi x4, zr 129] rfl (fun p7 => ?_)
      obtain ⟨q8, h⟩ := zck_some h
      obtain ⟨v9, ev9, h⟩ := zb_some h
      have hv9 : zV 0 137 v9 := by rw [ev9]; exact p7.1.st p7.2 (lg_129 ho).1 (Or.inr rfl)
      refine za_iast C (lg_129 ho) rfl (by decide) q8 ev9 (zd tX10_payAsTheyCome 23 rfl) ?_
      refine z_aload_n C (zd tX10_payAsTheyCome 24 rfl) rfl ?_
      refine z_aload_n C (zd tX10_payAsTheyCome 25 rfl) rfl ?_
      refine gl_10_2 (t := 129) C (lg_126 ho) zic_10 (zm zwd_353) (vl_10_2 ho hv9 (lg_126 ho)) (zd tX10_payAsTheyCome 26 rfl) ?_
      refine z_iload C (zd tX10_payAsTheyCome 27 rfl) rfl ?_
      obtain ⟨q10, h⟩ := zck_some h
      refine za_iald C (lg_129 ho) rfl (by decide) q10 (zd tX10_payAsTheyCome 28 rfl) ?_
      obtain ⟨v11, r12, cv11, h⟩ := zcl_some h
      refine zc_V C ho hz hRm (qX7_countsUnder _ _ _ _ ga1.1 (hv9.1 _ _) hv9 cv11) ga1 (by decide) rfl (zgV zwd_764 zwd_765 zwd_766 zwd_4 zwd_767) rfl pX7_countsUnder rfl ⟨rfl, rfl⟩ ⟨Nat.le_of_ble_eq_true rfl, Nat.le_of_ble_eq_true rfl⟩ [] rfl (Nat.le_of_ble_eq_true rfl) (zd tX10_payAsTheyCome 29 rfl) [zi r12] rfl (fun p13 => ?_)
      refine z_if_eq (tgt := 57) C p13.2 (zd tX10_payAsTheyCome 30 rfl) (by decide) h (fun h => ?_) (fun h => ?_)
      · obtain ⟨t14, et14, Rt14, h⟩ := zn_some h
        refine z_iincE C (zd tX10_payAsTheyCome 32 rfl) (by rw [hN]; decide) rfl et14 ?_
        refine z_goto (tgt := 5) C (zd tX10_payAsTheyCome 33 rfl) (by decide) ?_
        refine z_sub (lo' := [some (zr 126), some (zr a1), some (zi x2), some (zi x3), some (zi t14)]) (zsub_s (zsub_s (zsub_s (zsub_s (zsub_s zsub_0))))) ?_
        exact ih v11 a1 x2 x3 t14 _ h p13.1 ga1 Rx2 Rx3 Rt14 K1
      · obtain ⟨t15, et15, Rt15, h⟩ := zn_some h
        refine z_iincE C (zd tX10_payAsTheyCome 31 rfl) (by rw [hN]; decide) rfl et15 ?_
        obtain ⟨t16, et16, Rt16, h⟩ := zn_some h
        refine z_iincE C (zd tX10_payAsTheyCome 32 rfl) (by rw [hN]; decide) rfl et16 ?_
        refine z_goto (tgt := 5) C (zd tX10_payAsTheyCome 33 rfl) (by decide) ?_
        refine z_sub (lo' := [some (zr 126), some (zr a1), some (zi x2), some (zi t15), some (zi t16)]) (zsub_s (zsub_s (zsub_s (zsub_s (zsub_s zsub_0))))) ?_
        exact ih v11 a1 x2 t15 t16 _ h p13.1 ga1 Rx2 Rt15 Rt16 K1
set_option maxRecDepth 100000 in
set_option maxHeartbeats 4000000 in
theorem qX10_payAsTheyCome (l : Launch) (D : va_G) (ids : Nat → ClassId) (b : Nat) {a1 : Nat} (k1 : zK a1 = (7, 10)) {x2 : Int} (Rx2 : zR x2) {v v' : zHp} {r' : Int} (hv : zV 0 137 v) (h : fX10_payAsTheyCome v a1 x2 = some (v', r')) : zCT l yX10_payAsTheyCome vsX10_payAsTheyCome rmX10_payAsTheyCome D ids b 0 False 137 [zr 126, zr a1, zi x2] v 137 (zV 0 137 v') none v' 0 0 := by
  refine zMet (own := RX10) (by decide +kernel) (show vsX10_payAsTheyCome = _ from rfl) (Nat.le_of_ble_eq_true rfl) rfl ?_
  intro E hl hRm hD hids hb ho hz hN C hname ret
  subst hl hD hids hb
  have ga1 := kg_7 ho k1
  unfold fX10_payAsTheyCome at h
  refine z_iconst C (zd tX10_payAsTheyCome 0 rfl) ?_
  refine z_istore_n C (zd tX10_payAsTheyCome 1 rfl) (by rw [hN]; decide) ?_
  refine z_iconst C (zd tX10_payAsTheyCome 2 rfl) ?_
  refine z_istore C (zd tX10_payAsTheyCome 3 rfl) (by rw [hN]; decide) ?_
  refine z_sub (lo' := [some (zr 126), some (zr a1), some (zi x2), some (zi 0), some (zi 0)]) (zsub_s (zsub_s (zsub_s (zsub_s (zsub_s zsub_0))))) ?_
  obtain ⟨v17, w18, lv17, h⟩ := zl_some h
  refine bX10_payAsTheyCome_L5 C hN ho hz hRm zFU v a1 x2 0 0 _ lv17 hv ga1 Rx2 (zR_c 0 rfl) (zR_c 0 rfl) (fun w1 q1 e1 hv17 Rw18 => ?_)
  obtain ⟨rfl, rfl⟩ := zpp e1
  obtain ⟨rfl, rfl⟩ := zpi h
  exact ret.2.1 _ _ hv17 rfl rfl (zd tX10_payAsTheyCome 34 rfl)
noncomputable def vsX2_isAgain : List Cond := .code yX2_isAgain cX2_isAgain 2 (some .boolean) :: zbig
abbrev rmX2_isAgain : Room := { frames := 0, cells := 0, slots := 0, locals := 0 }
theorem pX2_isAgain : yX2_isAgain.cls = RX2 ∧ yX2_isAgain.cls ≠ "java/lang/invoke/MethodHandle" ∧ yX2_isAgain.cls ≠ "java/lang/invoke/VarHandle" ∧ (parseMethodDescriptor yX2_isAgain.desc).map (fun d => d.parameters.length) = some 1 := by decide +kernel
set_option maxRecDepth 100000 in
set_option maxHeartbeats 4000000 in
theorem qX2_isAgain (l : Launch) (D : va_G) (ids : Nat → ClassId) (b : Nat) {a0 : Nat} (k0 : zK a0 = (2, 5)) {x1 : Int} (Rx1 : zR x1) {v v' : zHp} {r' : Int} (hv : zV 0 137 v) (h : fX2_isAgain v a0 x1 = some (v', r')) : zCT l yX2_isAgain vsX2_isAgain rmX2_isAgain D ids b 0 False 137 [zr a0, zi x1] v 137 (zV 0 137 v' ∧ zR r') (some (zi r')) v' 0 0 := by
  refine zMet (own := RX2) (by decide +kernel) (show vsX2_isAgain = _ from rfl) (Nat.le_of_ble_eq_true rfl) rfl ?_
  intro E hl hRm hD hids hb ho hz hN C hname ret
  subst hl hD hids hb
  have ga0 := kg_2 ho k0
  unfold fX2_isAgain at h
  refine z_aload_n C (zd tX2_isAgain 0 rfl) rfl ?_
  refine gf_2_2 C ga0 zic_2 (zm zwd_89) (zd tX2_isAgain 1 rfl) ?_
  refine z_if_ne (tgt := 33) C (hv.1 _ _) (zd tX2_isAgain 2 rfl) (by decide) h (fun h => ?_) (fun h => ?_)
  · refine z_iconst C (zd tX2_isAgain 17 rfl) ?_
    obtain ⟨rfl, rfl⟩ := zpi h
    exact ret.1 _ _ _ _ ⟨hv, (zR_c 0 rfl)⟩ rfl rfl (by decide) (zd tX2_isAgain 18 rfl)
  · refine z_iload_n C (zd tX2_isAgain 3 rfl) rfl ?_
    refine z_aload_n C (zd tX2_isAgain 4 rfl) rfl ?_
    refine gf_2_3 C ga0 zic_2 (zm zwd_91) (zd tX2_isAgain 5 rfl) ?_
    refine z_bipush C (by decide) (zd tX2_isAgain 6 rfl) ?_
    refine z_iadd C (zd tX2_isAgain 7 rfl) ?_
    obtain ⟨t1, et1, Rt1, h⟩ := zn_some h
    refine z_n0 (congrArg zI et1.symm) ?_
    refine z_icmp_lt (tgt := 33) C Rx1 Rt1 (zd tX2_isAgain 8 rfl) (by decide) h (fun h => ?_) (fun h => ?_)
    · refine z_iconst C (zd tX2_isAgain 17 rfl) ?_
      obtain ⟨rfl, rfl⟩ := zpi h
      exact ret.1 _ _ _ _ ⟨hv, (zR_c 0 rfl)⟩ rfl rfl (by decide) (zd tX2_isAgain 18 rfl)
    · refine z_iload_n C (zd tX2_isAgain 9 rfl) rfl ?_
      refine z_aload_n C (zd tX2_isAgain 10 rfl) rfl ?_
      refine gf_2_3 C ga0 zic_2 (zm zwd_91) (zd tX2_isAgain 11 rfl) ?_
      refine z_bipush C (by decide) (zd tX2_isAgain 12 rfl) ?_
      refine z_iadd C (zd tX2_isAgain 13 rfl) ?_
      obtain ⟨t2, et2, Rt2, h⟩ := zn_some h
      refine z_n0 (congrArg zI et2.symm) ?_
      refine z_icmp_ge (tgt := 33) C Rx1 Rt2 (zd tX2_isAgain 14 rfl) (by decide) h (fun h => ?_) (fun h => ?_)
      · refine z_iconst C (zd tX2_isAgain 17 rfl) ?_
        obtain ⟨rfl, rfl⟩ := zpi h
        exact ret.1 _ _ _ _ ⟨hv, (zR_c 0 rfl)⟩ rfl rfl (by decide) (zd tX2_isAgain 18 rfl)
      · refine z_iconst C (zd tX2_isAgain 15 rfl) ?_
        refine z_goto (tgt := 34) C (zd tX2_isAgain 16 rfl) (by decide) ?_
        obtain ⟨rfl, rfl⟩ := zpi h
        exact ret.1 _ _ _ _ ⟨hv, (zR_c 1 rfl)⟩ rfl rfl (by decide) (zd tX2_isAgain 18 rfl)
noncomputable def vsX11_clock : List Cond := .code yX11_clock cX11_clock 4 (some .int) :: zbig
abbrev rmX11_clock : Room := { frames := 1, cells := 0, slots := 0, locals := 21 }
theorem pX11_clock : yX11_clock.cls = RX11 ∧ yX11_clock.cls ≠ "java/lang/invoke/MethodHandle" ∧ yX11_clock.cls ≠ "java/lang/invoke/VarHandle" ∧ (parseMethodDescriptor yX11_clock.desc).map (fun d => d.parameters.length) = some 2 := by decide +kernel
set_option maxRecDepth 100000 in
set_option maxHeartbeats 4000000 in
theorem qX11_clock (l : Launch) (D : va_G) (ids : Nat → ClassId) (b : Nat) {x1 : Int} (Rx1 : zR x1) {x2 : Int} (Rx2 : zR x2) {v v' : zHp} {r' : Int} (hv : zV 0 137 v) (h : fX11_clock v x1 x2 = some (v', r')) : zCT l yX11_clock vsX11_clock rmX11_clock D ids b 0 False 137 [zr 0, zi x1, zi x2] v 137 (zV 0 137 v' ∧ zR r') (some (zi r')) v' 0 0 := by
  refine zMet (own := RX11) (by decide +kernel) (show vsX11_clock = _ from rfl) (Nat.le_of_ble_eq_true rfl) rfl ?_
  intro E hl hRm hD hids hb ho hz hN C hname ret
  subst hl hD hids hb
  unfold fX11_clock at h
  refine z_iload_n C (zd tX11_clock 0 rfl) rfl ?_
  refine z_if_lt (tgt := 20) C Rx1 (zd tX11_clock 1 rfl) (by decide) h (fun h => ?_) (fun h => ?_)
  · refine z_iconst C (zd tX11_clock 9 rfl) ?_
    obtain ⟨rfl, rfl⟩ := zpi h
    exact ret.1 _ _ _ _ ⟨hv, (zR_c (-1) rfl)⟩ rfl rfl rfl (zd tX11_clock 10 rfl)
  · refine z_iload_n C (zd tX11_clock 2 rfl) rfl ?_
    refine z_aload_n C (zd tX11_clock 3 rfl) rfl ?_
    obtain ⟨u1, eu1, h⟩ := zb_some h
    obtain ⟨q2, h⟩ := zck_some h
    have gu1 := kg_7 ho q2.2
    refine gl_11_2 C (lg_0 ho) zic_11 (zm zwd_402) (zdyn q2.1 eu1) (zd tX11_clock 4 rfl) ?_
    refine gl_7_0 C gu1 zic_7 (zm zwd_151) (vl_7_0 ho hv gu1) (zd tX11_clock 5 rfl) ?_
    refine z_bipush C (by decide) (zd tX11_clock 6 rfl) ?_
    obtain ⟨v3, r4, cv3, h⟩ := zcl_some h
    refine zc_V C ho hz hRm (qX2_momentsAhead _ _ _ _ (lk_7_0 ho gu1).1 (zR_c 28 rfl) hv cv3) (lk_7_0 ho gu1) (by decide) rfl (zgV zwd_613 zwd_614 zwd_615 zwd_5 zwd_616) rfl pX2_momentsAhead rfl ⟨rfl, rfl⟩ ⟨Nat.le_of_ble_eq_true rfl, Nat.le_of_ble_eq_true rfl⟩ [zi x1] rfl (Nat.le_of_ble_eq_true rfl) (zd tX11_clock 7 rfl) [zi r4, zi x1] rfl (fun p5 => ?_)
    refine z_icmp_lt (tgt := 22) C Rx1 p5.2 (zd tX11_clock 8 rfl) (by decide) h (fun h => ?_) (fun h => ?_)
    · refine z_aload_n C (zd tX11_clock 11 rfl) rfl ?_
      obtain ⟨u6, eu6, h⟩ := zb_some h
      obtain ⟨q7, h⟩ := zck_some h
      have gu6 := kg_7 ho q7.2
      refine gl_11_2 C (lg_0 ho) zic_11 (zm zwd_402) (zdyn q7.1 eu6) (zd tX11_clock 12 rfl) ?_
      refine gl_7_0 C gu6 zic_7 (zm zwd_151) (vl_7_0 ho p5.1 gu6) (zd tX11_clock 13 rfl) ?_
      refine z_iload_n C (zd tX11_clock 14 rfl) rfl ?_
      obtain ⟨v8, r9, cv8, h⟩ := zcl_some h
      refine zc_V C ho hz hRm (qX2_toldAt _ _ _ _ (lk_7_0 ho gu6).1 Rx1 p5.1 cv8) (lk_7_0 ho gu6) (by decide) rfl (zgV zwd_617 zwd_618 zwd_619 zwd_5 zwd_620) rfl pX2_toldAt rfl ⟨rfl, rfl⟩ ⟨Nat.le_of_ble_eq_true rfl, Nat.le_of_ble_eq_true rfl⟩ [] rfl (Nat.le_of_ble_eq_true rfl) (zd tX11_clock 15 rfl) [zi r9] rfl (fun p10 => ?_)
      refine z_istore_n C (zd tX11_clock 16 rfl) (by rw [hN]; decide) ?_
      refine z_iload_n C (zd tX11_clock 17 rfl) rfl ?_
      by_cases c35_0 : x2 = 0
      · rw [if_pos c35_0] at h
        refine z_tblIn (tgt := 60) C Rx2 c35_0 (zd tX11_clock 18 rfl) (by decide) (by decide) rfl (by decide) ?_
        refine z_iload_n C (zd tX11_clock 19 rfl) rfl ?_
        refine z_sipush C (by decide) (zd tX11_clock 20 rfl) ?_
        refine z_idiv C p10.2 (by decide) (zR_c 1440 rfl) (zd tX11_clock 21 rfl) ?_
        obtain ⟨rfl, rfl⟩ := zpi h
        exact ret.1 _ _ _ _ ⟨p10.1, (zR_div p10.2 (by decide))⟩ rfl rfl rfl (zd tX11_clock 22 rfl)
      rw [if_neg c35_0] at h
      by_cases c35_1 : x2 = 1
      · rw [if_pos c35_1] at h
        refine z_tblIn (tgt := 66) C Rx2 c35_1 (zd tX11_clock 18 rfl) (by decide) (by decide) rfl (by decide) ?_
        refine z_iload_n C (zd tX11_clock 23 rfl) rfl ?_
        refine z_sipush C (by decide) (zd tX11_clock 24 rfl) ?_
        refine z_irem C p10.2 (by decide) (zR_c 1440 rfl) (zd tX11_clock 25 rfl) ?_
        obtain ⟨rfl, rfl⟩ := zpi h
        exact ret.1 _ _ _ _ ⟨p10.1, (zR_mod (by decide) (zR_c 1440 rfl))⟩ rfl rfl rfl (zd tX11_clock 26 rfl)
      rw [if_neg c35_1] at h
      by_cases c35_2 : x2 = 2
      · rw [if_pos c35_2] at h
        refine z_tblIn (tgt := 72) C Rx2 c35_2 (zd tX11_clock 18 rfl) (by decide) (by decide) rfl (by decide) ?_
        refine z_aload_n C (zd tX11_clock 27 rfl) rfl ?_
        obtain ⟨u11, eu11, h⟩ := zb_some h
        obtain ⟨q12, h⟩ := zck_some h
        have gu11 := kg_7 ho q12.2
        refine gl_11_2 C (lg_0 ho) zic_11 (zm zwd_402) (zdyn q12.1 eu11) (zd tX11_clock 28 rfl) ?_
        refine gl_7_0 C gu11 zic_7 (zm zwd_151) (vl_7_0 ho p10.1 gu11) (zd tX11_clock 29 rfl) ?_
        refine z_iload_n C (zd tX11_clock 30 rfl) rfl ?_
        obtain ⟨v13, r14, cv13, h⟩ := zcl_some h
        refine zc_V C ho hz hRm (qX2_isAgain _ _ _ _ (lk_7_0 ho gu11).1 Rx1 p10.1 cv13) (lk_7_0 ho gu11) (by decide) rfl (zgV zwd_621 zwd_622 zwd_623 zwd_5 zwd_624) rfl pX2_isAgain rfl ⟨rfl, rfl⟩ ⟨Nat.le_of_ble_eq_true rfl, Nat.le_of_ble_eq_true rfl⟩ [] rfl (Nat.le_of_ble_eq_true rfl) (zd tX11_clock 31 rfl) [zi r14] rfl (fun p15 => ?_)
        refine z_if_eq (tgt := 90) C p15.2 (zd tX11_clock 32 rfl) (by decide) h (fun h => ?_) (fun h => ?_)
        · refine z_iconst C (zd tX11_clock 35 rfl) ?_
          obtain ⟨rfl, rfl⟩ := zpi h
          exact ret.1 _ _ _ _ ⟨p15.1, (zR_c 0 rfl)⟩ rfl rfl rfl (zd tX11_clock 36 rfl)
        · refine z_iconst C (zd tX11_clock 33 rfl) ?_
          refine z_goto (tgt := 91) C (zd tX11_clock 34 rfl) (by decide) ?_
          obtain ⟨rfl, rfl⟩ := zpi h
          exact ret.1 _ _ _ _ ⟨p15.1, (zR_c 1 rfl)⟩ rfl rfl rfl (zd tX11_clock 36 rfl)
      rw [if_neg c35_2] at h
      refine z_tblOut (tgt := 92) C Rx2 (by omega) (zd tX11_clock 18 rfl) (by decide) ?_
      refine z_iconst C (zd tX11_clock 37 rfl) ?_
      obtain ⟨rfl, rfl⟩ := zpi h
      exact ret.1 _ _ _ _ ⟨p10.1, (zR_c (-1) rfl)⟩ rfl rfl rfl (zd tX11_clock 38 rfl)
    · refine z_iconst C (zd tX11_clock 9 rfl) ?_
      obtain ⟨rfl, rfl⟩ := zpi h
      exact ret.1 _ _ _ _ ⟨p5.1, (zR_c (-1) rfl)⟩ rfl rfl rfl (zd tX11_clock 10 rfl)
noncomputable def vsX11_count : List Cond := .code yX11_count cX11_count 2 (some .int) :: zbig
abbrev rmX11_count : Room := { frames := 0, cells := 0, slots := 0, locals := 0 }
theorem pX11_count : yX11_count.cls = RX11 ∧ yX11_count.cls ≠ "java/lang/invoke/MethodHandle" ∧ yX11_count.cls ≠ "java/lang/invoke/VarHandle" ∧ (parseMethodDescriptor yX11_count.desc).map (fun d => d.parameters.length) = some 1 := by decide +kernel
set_option maxRecDepth 100000 in
set_option maxHeartbeats 4000000 in
theorem qX11_count (l : Launch) (D : va_G) (ids : Nat → ClassId) (b : Nat) {x1 : Int} (Rx1 : zR x1) {v v' : zHp} {r' : Int} (hv : zV 0 137 v) (h : fX11_count v x1 = some (v', r')) : zCT l yX11_count vsX11_count rmX11_count D ids b 0 False 137 [zr 0, zi x1] v 137 (zV 0 137 v' ∧ zR r') (some (zi r')) v' 0 0 := by
  refine zMet (own := RX11) (by decide +kernel) (show vsX11_count = _ from rfl) (Nat.le_of_ble_eq_true rfl) rfl ?_
  intro E hl hRm hD hids hb ho hz hN C hname ret
  subst hl hD hids hb
  unfold fX11_count at h
  refine z_iload_n C (zd tX11_count 0 rfl) rfl ?_
  by_cases c1_0 : x1 = 0
  · rw [if_pos c1_0] at h
    refine z_tblIn (tgt := 64) C Rx1 c1_0 (zd tX11_count 1 rfl) (by decide) (by decide) rfl (by decide) ?_
    refine z_aload_n C (zd tX11_count 2 rfl) rfl ?_
    obtain ⟨u1, eu1, h⟩ := zb_some h
    obtain ⟨q2, h⟩ := zck_some h
    have gu1 := kg_7 ho q2.2
    refine gl_11_2 C (lg_0 ho) zic_11 (zm zwd_402) (zdyn q2.1 eu1) (zd tX11_count 3 rfl) ?_
    refine gf_7_2 C gu1 zic_7 (zm zwd_158) (zd tX11_count 4 rfl) ?_
    obtain ⟨rfl, rfl⟩ := zpi h
    exact ret.1 _ _ _ _ ⟨hv, (hv.1 _ _)⟩ rfl rfl rfl (zd tX11_count 5 rfl)
  rw [if_neg c1_0] at h
  by_cases c1_1 : x1 = 1
  · rw [if_pos c1_1] at h
    refine z_tblIn (tgt := 72) C Rx1 c1_1 (zd tX11_count 1 rfl) (by decide) (by decide) rfl (by decide) ?_
    refine z_aload_n C (zd tX11_count 6 rfl) rfl ?_
    obtain ⟨u3, eu3, h⟩ := zb_some h
    obtain ⟨q4, h⟩ := zck_some h
    have gu3 := kg_7 ho q4.2
    refine gl_11_2 C (lg_0 ho) zic_11 (zm zwd_402) (zdyn q4.1 eu3) (zd tX11_count 7 rfl) ?_
    refine gf_7_4 C gu3 zic_7 (zm zwd_165) (zd tX11_count 8 rfl) ?_
    obtain ⟨rfl, rfl⟩ := zpi h
    exact ret.1 _ _ _ _ ⟨hv, (hv.1 _ _)⟩ rfl rfl rfl (zd tX11_count 9 rfl)
  rw [if_neg c1_1] at h
  by_cases c1_2 : x1 = 2
  · rw [if_pos c1_2] at h
    refine z_tblIn (tgt := 80) C Rx1 c1_2 (zd tX11_count 1 rfl) (by decide) (by decide) rfl (by decide) ?_
    refine z_aload_n C (zd tX11_count 10 rfl) rfl ?_
    obtain ⟨u5, eu5, h⟩ := zb_some h
    obtain ⟨q6, h⟩ := zck_some h
    have gu5 := kg_7 ho q6.2
    refine gl_11_2 C (lg_0 ho) zic_11 (zm zwd_402) (zdyn q6.1 eu5) (zd tX11_count 11 rfl) ?_
    refine gf_7_5 C gu5 zic_7 (zm zwd_168) (zd tX11_count 12 rfl) ?_
    obtain ⟨rfl, rfl⟩ := zpi h
    exact ret.1 _ _ _ _ ⟨hv, (hv.1 _ _)⟩ rfl rfl rfl (zd tX11_count 13 rfl)
  rw [if_neg c1_2] at h
  by_cases c1_3 : x1 = 3
  · rw [if_pos c1_3] at h
    refine z_tblIn (tgt := 88) C Rx1 c1_3 (zd tX11_count 1 rfl) (by decide) (by decide) rfl (by decide) ?_
    refine z_aload_n C (zd tX11_count 14 rfl) rfl ?_
    obtain ⟨u7, eu7, h⟩ := zb_some h
    obtain ⟨q8, h⟩ := zck_some h
    have gu7 := kg_7 ho q8.2
    refine gl_11_2 C (lg_0 ho) zic_11 (zm zwd_402) (zdyn q8.1 eu7) (zd tX11_count 15 rfl) ?_
    refine gf_7_6 C gu7 zic_7 (zm zwd_171) (zd tX11_count 16 rfl) ?_
    obtain ⟨rfl, rfl⟩ := zpi h
    exact ret.1 _ _ _ _ ⟨hv, (hv.1 _ _)⟩ rfl rfl rfl (zd tX11_count 17 rfl)
  rw [if_neg c1_3] at h
  by_cases c1_4 : x1 = 4
  · rw [if_pos c1_4] at h
    refine z_tblIn (tgt := 96) C Rx1 c1_4 (zd tX11_count 1 rfl) (by decide) (by decide) rfl (by decide) ?_
    refine z_aload_n C (zd tX11_count 18 rfl) rfl ?_
    obtain ⟨u9, eu9, h⟩ := zb_some h
    obtain ⟨q10, h⟩ := zck_some h
    have gu9 := kg_7 ho q10.2
    refine gl_11_2 C (lg_0 ho) zic_11 (zm zwd_402) (zdyn q10.1 eu9) (zd tX11_count 19 rfl) ?_
    refine gf_7_7 C gu9 zic_7 (zm zwd_175) (zd tX11_count 20 rfl) ?_
    obtain ⟨rfl, rfl⟩ := zpi h
    exact ret.1 _ _ _ _ ⟨hv, (hv.1 _ _)⟩ rfl rfl rfl (zd tX11_count 21 rfl)
  rw [if_neg c1_4] at h
  by_cases c1_5 : x1 = 5
  · rw [if_pos c1_5] at h
    refine z_tblIn (tgt := 104) C Rx1 c1_5 (zd tX11_count 1 rfl) (by decide) (by decide) rfl (by decide) ?_
    refine z_aload_n C (zd tX11_count 22 rfl) rfl ?_
    obtain ⟨u11, eu11, h⟩ := zb_some h
    obtain ⟨q12, h⟩ := zck_some h
    have gu11 := kg_7 ho q12.2
    refine gl_11_2 C (lg_0 ho) zic_11 (zm zwd_402) (zdyn q12.1 eu11) (zd tX11_count 23 rfl) ?_
    refine gf_7_8 C gu11 zic_7 (zm zwd_180) (zd tX11_count 24 rfl) ?_
    obtain ⟨rfl, rfl⟩ := zpi h
    exact ret.1 _ _ _ _ ⟨hv, (hv.1 _ _)⟩ rfl rfl rfl (zd tX11_count 25 rfl)
  rw [if_neg c1_5] at h
  by_cases c1_6 : x1 = 6
  · rw [if_pos c1_6] at h
    refine z_tblIn (tgt := 112) C Rx1 c1_6 (zd tX11_count 1 rfl) (by decide) (by decide) rfl (by decide) ?_
    refine z_aload_n C (zd tX11_count 26 rfl) rfl ?_
    obtain ⟨u13, eu13, h⟩ := zb_some h
    obtain ⟨q14, h⟩ := zck_some h
    have gu13 := kg_7 ho q14.2
    refine gl_11_2 C (lg_0 ho) zic_11 (zm zwd_402) (zdyn q14.1 eu13) (zd tX11_count 27 rfl) ?_
    refine gf_7_9 C gu13 zic_7 (zm zwd_183) (zd tX11_count 28 rfl) ?_
    obtain ⟨rfl, rfl⟩ := zpi h
    exact ret.1 _ _ _ _ ⟨hv, (hv.1 _ _)⟩ rfl rfl rfl (zd tX11_count 29 rfl)
  rw [if_neg c1_6] at h
  by_cases c1_7 : x1 = 7
  · rw [if_pos c1_7] at h
    refine z_tblIn (tgt := 120) C Rx1 c1_7 (zd tX11_count 1 rfl) (by decide) (by decide) rfl (by decide) ?_
    refine z_aload_n C (zd tX11_count 30 rfl) rfl ?_
    obtain ⟨u15, eu15, h⟩ := zb_some h
    obtain ⟨q16, h⟩ := zck_some h
    have gu15 := kg_7 ho q16.2
    refine gl_11_2 C (lg_0 ho) zic_11 (zm zwd_402) (zdyn q16.1 eu15) (zd tX11_count 31 rfl) ?_
    refine gl_7_0 C gu15 zic_7 (zm zwd_151) (vl_7_0 ho hv gu15) (zd tX11_count 32 rfl) ?_
    refine gf_2_0 C (lk_7_0 ho gu15) zic_2 (zm zwd_86) (zd tX11_count 33 rfl) ?_
    obtain ⟨rfl, rfl⟩ := zpi h
    exact ret.1 _ _ _ _ ⟨hv, (hv.1 _ _)⟩ rfl rfl rfl (zd tX11_count 34 rfl)
  rw [if_neg c1_7] at h
  by_cases c1_8 : x1 = 8
  · rw [if_pos c1_8] at h
    refine z_tblIn (tgt := 131) C Rx1 c1_8 (zd tX11_count 1 rfl) (by decide) (by decide) rfl (by decide) ?_
    refine z_aload_n C (zd tX11_count 35 rfl) rfl ?_
    obtain ⟨u17, eu17, h⟩ := zb_some h
    obtain ⟨q18, h⟩ := zck_some h
    have gu17 := kg_7 ho q18.2
    refine gl_11_2 C (lg_0 ho) zic_11 (zm zwd_402) (zdyn q18.1 eu17) (zd tX11_count 36 rfl) ?_
    refine gl_7_0 C gu17 zic_7 (zm zwd_151) (vl_7_0 ho hv gu17) (zd tX11_count 37 rfl) ?_
    refine gf_2_1 C (lk_7_0 ho gu17) zic_2 (zm zwd_88) (zd tX11_count 38 rfl) ?_
    obtain ⟨rfl, rfl⟩ := zpi h
    exact ret.1 _ _ _ _ ⟨hv, (hv.1 _ _)⟩ rfl rfl rfl (zd tX11_count 39 rfl)
  rw [if_neg c1_8] at h
  by_cases c1_9 : x1 = 9
  · rw [if_pos c1_9] at h
    refine z_tblIn (tgt := 142) C Rx1 c1_9 (zd tX11_count 1 rfl) (by decide) (by decide) rfl (by decide) ?_
    refine z_aload_n C (zd tX11_count 40 rfl) rfl ?_
    obtain ⟨u19, eu19, h⟩ := zb_some h
    obtain ⟨q20, h⟩ := zck_some h
    have gu19 := kg_7 ho q20.2
    refine gl_11_2 C (lg_0 ho) zic_11 (zm zwd_402) (zdyn q20.1 eu19) (zd tX11_count 41 rfl) ?_
    refine gl_7_0 C gu19 zic_7 (zm zwd_151) (vl_7_0 ho hv gu19) (zd tX11_count 42 rfl) ?_
    refine gf_2_2 C (lk_7_0 ho gu19) zic_2 (zm zwd_90) (zd tX11_count 43 rfl) ?_
    obtain ⟨rfl, rfl⟩ := zpi h
    exact ret.1 _ _ _ _ ⟨hv, (hv.1 _ _)⟩ rfl rfl rfl (zd tX11_count 44 rfl)
  rw [if_neg c1_9] at h
  by_cases c1_10 : x1 = 10
  · rw [if_pos c1_10] at h
    refine z_tblIn (tgt := 153) C Rx1 c1_10 (zd tX11_count 1 rfl) (by decide) (by decide) rfl (by decide) ?_
    refine z_aload_n C (zd tX11_count 45 rfl) rfl ?_
    refine gl_11_0 (t := 1) C (lg_0 ho) zic_11 (zm zwd_400) (vl_11_0 ho hv (lg_0 ho)) (zd tX11_count 46 rfl) ?_
    refine gf_9_1 C (lg_1 ho) zic_9 (zm zwd_39) (zd tX11_count 47 rfl) ?_
    obtain ⟨rfl, rfl⟩ := zpi h
    exact ret.1 _ _ _ _ ⟨hv, (hv.1 _ _)⟩ rfl rfl rfl (zd tX11_count 48 rfl)
  rw [if_neg c1_10] at h
  by_cases c1_11 : x1 = 11
  · rw [if_pos c1_11] at h
    refine z_tblIn (tgt := 161) C Rx1 c1_11 (zd tX11_count 1 rfl) (by decide) (by decide) rfl (by decide) ?_
    refine z_aload_n C (zd tX11_count 49 rfl) rfl ?_
    refine gl_11_6 (t := 102) C (lg_0 ho) zic_11 (zm zwd_406) (vl_11_6 ho hv (lg_0 ho)) (zd tX11_count 50 rfl) ?_
    refine gf_3_4 C (lg_102 ho) zic_3 (zm zwd_323) (zd tX11_count 51 rfl) ?_
    obtain ⟨rfl, rfl⟩ := zpi h
    exact ret.1 _ _ _ _ ⟨hv, (hv.1 _ _)⟩ rfl rfl rfl (zd tX11_count 52 rfl)
  rw [if_neg c1_11] at h
  refine z_tblOut (tgt := 169) C Rx1 (by omega) (zd tX11_count 1 rfl) (by decide) ?_
  refine z_iconst C (zd tX11_count 53 rfl) ?_
  obtain ⟨rfl, rfl⟩ := zpi h
  exact ret.1 _ _ _ _ ⟨hv, (zR_c (-1) rfl)⟩ rfl rfl rfl (zd tX11_count 54 rfl)
noncomputable def vsX11_isPremium : List Cond := .code yX11_isPremium cX11_isPremium 2 (some .boolean) :: zbig
abbrev rmX11_isPremium : Room := { frames := 0, cells := 0, slots := 0, locals := 0 }
theorem pX11_isPremium : yX11_isPremium.cls = RX11 ∧ yX11_isPremium.cls ≠ "java/lang/invoke/MethodHandle" ∧ yX11_isPremium.cls ≠ "java/lang/invoke/VarHandle" ∧ (parseMethodDescriptor yX11_isPremium.desc).map (fun d => d.parameters.length) = some 1 := by decide +kernel
set_option maxRecDepth 100000 in
set_option maxHeartbeats 4000000 in
theorem qX11_isPremium (l : Launch) (D : va_G) (ids : Nat → ClassId) (b : Nat) {x1 : Int} (Rx1 : zR x1) {v v' : zHp} {r' : Int} (hv : zV 0 137 v) (h : fX11_isPremium v x1 = some (v', r')) : zCT l yX11_isPremium vsX11_isPremium rmX11_isPremium D ids b 0 False 137 [zr 0, zi x1] v 137 (zV 0 137 v' ∧ zR r') (some (zi r')) v' 0 0 := by
  refine zMet (own := RX11) (by decide +kernel) (show vsX11_isPremium = _ from rfl) (Nat.le_of_ble_eq_true rfl) rfl ?_
  intro E hl hRm hD hids hb ho hz hN C hname ret
  subst hl hD hids hb
  unfold fX11_isPremium at h
  refine z_iload_n C (zd tX11_isPremium 0 rfl) rfl ?_
  refine z_if_lt (tgt := 19) C Rx1 (zd tX11_isPremium 1 rfl) (by decide) h (fun h => ?_) (fun h => ?_)
  · refine z_iconst C (zd tX11_isPremium 9 rfl) ?_
    obtain ⟨rfl, rfl⟩ := zpi h
    exact ret.1 _ _ _ _ ⟨hv, (zR_c 0 rfl)⟩ rfl rfl (by decide) (zd tX11_isPremium 10 rfl)
  · refine z_iload_n C (zd tX11_isPremium 2 rfl) rfl ?_
    refine z_aload_n C (zd tX11_isPremium 3 rfl) rfl ?_
    obtain ⟨u1, eu1, h⟩ := zb_some h
    obtain ⟨q2, h⟩ := zck_some h
    have gu1 := kg_7 ho q2.2
    refine gl_11_2 C (lg_0 ho) zic_11 (zm zwd_402) (zdyn q2.1 eu1) (zd tX11_isPremium 4 rfl) ?_
    refine gf_7_2 C gu1 zic_7 (zm zwd_158) (zd tX11_isPremium 5 rfl) ?_
    refine z_icmp_ge (tgt := 19) C Rx1 (hv.1 _ _) (zd tX11_isPremium 6 rfl) (by decide) h (fun h => ?_) (fun h => ?_)
    · refine z_iconst C (zd tX11_isPremium 9 rfl) ?_
      obtain ⟨rfl, rfl⟩ := zpi h
      exact ret.1 _ _ _ _ ⟨hv, (zR_c 0 rfl)⟩ rfl rfl (by decide) (zd tX11_isPremium 10 rfl)
    · refine z_iconst C (zd tX11_isPremium 7 rfl) ?_
      refine z_goto (tgt := 20) C (zd tX11_isPremium 8 rfl) (by decide) ?_
      obtain ⟨rfl, rfl⟩ := zpi h
      exact ret.1 _ _ _ _ ⟨hv, (zR_c 1 rfl)⟩ rfl rfl (by decide) (zd tX11_isPremium 10 rfl)
noncomputable def vsX11_isWorker : List Cond := .code yX11_isWorker cX11_isWorker 1 (some .boolean) :: zbig
abbrev rmX11_isWorker : Room := { frames := 0, cells := 0, slots := 0, locals := 0 }
theorem pX11_isWorker : yX11_isWorker.cls = RX11 ∧ yX11_isWorker.cls ≠ "java/lang/invoke/MethodHandle" ∧ yX11_isWorker.cls ≠ "java/lang/invoke/VarHandle" ∧ (parseMethodDescriptor yX11_isWorker.desc).map (fun d => d.parameters.length) = some 1 := by decide +kernel
set_option maxRecDepth 100000 in
set_option maxHeartbeats 4000000 in
theorem qX11_isWorker (l : Launch) (D : va_G) (ids : Nat → ClassId) (b : Nat) {x0 : Int} (Rx0 : zR x0) {v v' : zHp} {r' : Int} (hv : zV 0 137 v) (h : fX11_isWorker v x0 = some (v', r')) : zCT l yX11_isWorker vsX11_isWorker rmX11_isWorker D ids b 0 False 137 [zi x0] v 137 (zV 0 137 v' ∧ zR r') (some (zi r')) v' 0 0 := by
  refine zMet (own := RX11) (by decide +kernel) (show vsX11_isWorker = _ from rfl) (Nat.le_of_ble_eq_true rfl) rfl ?_
  intro E hl hRm hD hids hb ho hz hN C hname ret
  subst hl hD hids hb
  unfold fX11_isWorker at h
  refine z_iload_n C (zd tX11_isWorker 0 rfl) rfl ?_
  refine z_if_lt (tgt := 13) C Rx0 (zd tX11_isWorker 1 rfl) (by decide) h (fun h => ?_) (fun h => ?_)
  · refine z_iconst C (zd tX11_isWorker 7 rfl) ?_
    obtain ⟨rfl, rfl⟩ := zpi h
    exact ret.1 _ _ _ _ ⟨hv, (zR_c 0 rfl)⟩ rfl rfl (by decide) (zd tX11_isWorker 8 rfl)
  · refine z_iload_n C (zd tX11_isWorker 2 rfl) rfl ?_
    refine z_iconst C (zd tX11_isWorker 3 rfl) ?_
    refine z_icmp_ge (tgt := 13) C Rx0 (zR_c 4 rfl) (zd tX11_isWorker 4 rfl) (by decide) h (fun h => ?_) (fun h => ?_)
    · refine z_iconst C (zd tX11_isWorker 7 rfl) ?_
      obtain ⟨rfl, rfl⟩ := zpi h
      exact ret.1 _ _ _ _ ⟨hv, (zR_c 0 rfl)⟩ rfl rfl (by decide) (zd tX11_isWorker 8 rfl)
    · refine z_iconst C (zd tX11_isWorker 5 rfl) ?_
      refine z_goto (tgt := 14) C (zd tX11_isWorker 6 rfl) (by decide) ?_
      obtain ⟨rfl, rfl⟩ := zpi h
      exact ret.1 _ _ _ _ ⟨hv, (zR_c 1 rfl)⟩ rfl rfl (by decide) (zd tX11_isWorker 8 rfl)
noncomputable def vsX4_firstBehind : List Cond := .code yX4_firstBehind cX4_firstBehind 3 (some .int) :: zbig
abbrev rmX4_firstBehind : Room := { frames := 0, cells := 0, slots := 0, locals := 0 }
theorem pX4_firstBehind : yX4_firstBehind.cls = RX4 ∧ yX4_firstBehind.cls ≠ "java/lang/invoke/MethodHandle" ∧ yX4_firstBehind.cls ≠ "java/lang/invoke/VarHandle" ∧ (parseMethodDescriptor yX4_firstBehind.desc).map (fun d => d.parameters.length) = some 1 := by decide +kernel
set_option maxRecDepth 100000 in
set_option maxHeartbeats 4000000 in
theorem bX4_firstBehind_L2 {E : zE} (C : zC E 137 cX4_firstBehind RX4 vsX4_firstBehind) (hN : zEN E = 3) (ho : zEo E = 0) (hz : zEz E = False) (hRm : zER E = rmX4_firstBehind) : ∀ (fu : Nat) (v : zHp) (a0 : Nat) (x1 : Int) (x2 : Int) (res : (zHp × (Int))), fX4_firstBehind_L2 fu v a0 x1 x2 = some res → zV 0 137 v → zG E 137 a0 4 3 → zR x1 → zR x2 → (∀ (w : zHp) (q : Int), res = (w, q) → zV 0 137 w → zR q → zX E 0 0 137 w 26 [none, none, some (zi q)] []) → zX E 0 0 137 v 2 [some (zr a0), some (zi x1), some (zi x2)] [] := by
  intro fu
  induction fu with
  | zero =>
    intro v _ _ _ res h
    cases h
  | succ fu ih =>
    intro v a0 x1 x2 res h hv ga0 Rx1 Rx2 K1
    rw [fX4_firstBehind_L2.eq_2] at h
    refine z_iload_n C (zd tX4_firstBehind 2 rfl) rfl ?_
    refine z_aload_n C (zd tX4_firstBehind 3 rfl) rfl ?_
    refine gf_4_2 C ga0 zic_4 (zm zwd_246) (zd tX4_firstBehind 4 rfl) ?_
    refine z_icmp_ge (tgt := 26) C Rx2 (hv.1 _ _) (zd tX4_firstBehind 5 rfl) (by decide) h (fun h => ?_) (fun h => ?_)
    · refine z_sub (lo' := [none, none, some (zi x2)]) (zsub_n (zsub_n (zsub_s zsub_0))) ?_
      exact K1 _ _ (Option.some.inj h).symm hv Rx2
    · refine z_aload_n C (zd tX4_firstBehind 6 rfl) rfl ?_
      refine gl_4_1 C ga0 zic_4 (zm zwd_244) (vl_4_1 ho hv ga0) (zd tX4_firstBehind 7 rfl) ?_
      refine z_iload_n C (zd tX4_firstBehind 8 rfl) rfl ?_
      obtain ⟨q1, h⟩ := zck_some h
      refine za_iald C (lk_4_1 ho ga0) rfl (by decide) q1 (zd tX4_firstBehind 9 rfl) ?_
      refine z_iload_n C (zd tX4_firstBehind 10 rfl) rfl ?_
      refine z_icmp_gt (tgt := 26) C (hv.1 _ _) Rx1 (zd tX4_firstBehind 11 rfl) (by decide) h (fun h => ?_) (fun h => ?_)
      · refine z_sub (lo' := [none, none, some (zi x2)]) (zsub_n (zsub_n (zsub_s zsub_0))) ?_
        exact K1 _ _ (Option.some.inj h).symm hv Rx2
      · obtain ⟨t2, et2, Rt2, h⟩ := zn_some h
        refine z_iincE C (zd tX4_firstBehind 12 rfl) (by rw [hN]; decide) rfl et2 ?_
        refine z_goto (tgt := 2) C (zd tX4_firstBehind 13 rfl) (by decide) ?_
        refine z_sub (lo' := [some (zr a0), some (zi x1), some (zi t2)]) (zsub_s (zsub_s (zsub_s zsub_0))) ?_
        exact ih v a0 x1 t2 _ h hv ga0 Rx1 Rt2 K1
set_option maxRecDepth 100000 in
set_option maxHeartbeats 4000000 in
theorem qX4_firstBehind (l : Launch) (D : va_G) (ids : Nat → ClassId) (b : Nat) {a0 : Nat} (k0 : zK a0 = (4, 3)) {x1 : Int} (Rx1 : zR x1) {v v' : zHp} {r' : Int} (hv : zV 0 137 v) (h : fX4_firstBehind v a0 x1 = some (v', r')) : zCT l yX4_firstBehind vsX4_firstBehind rmX4_firstBehind D ids b 0 False 137 [zr a0, zi x1] v 137 (zV 0 137 v' ∧ zR r') (some (zi r')) v' 0 0 := by
  refine zMet (own := RX4) (by decide +kernel) (show vsX4_firstBehind = _ from rfl) (Nat.le_of_ble_eq_true rfl) rfl ?_
  intro E hl hRm hD hids hb ho hz hN C hname ret
  subst hl hD hids hb
  have ga0 := kg_4 ho k0
  unfold fX4_firstBehind at h
  refine z_iconst C (zd tX4_firstBehind 0 rfl) ?_
  refine z_istore_n C (zd tX4_firstBehind 1 rfl) (by rw [hN]; decide) ?_
  refine z_sub (lo' := [some (zr a0), some (zi x1), some (zi 0)]) (zsub_s (zsub_s (zsub_s zsub_0))) ?_
  obtain ⟨v3, w4, lv3, h⟩ := zl_some h
  refine bX4_firstBehind_L2 C hN ho hz hRm zFU v a0 x1 0 _ lv3 hv ga0 Rx1 (zR_c 0 rfl) (fun w1 q1 e1 hv3 Rw4 => ?_)
  obtain ⟨rfl, rfl⟩ := zpp e1
  refine z_iload_n C (zd tX4_firstBehind 14 rfl) rfl ?_
  obtain ⟨rfl, rfl⟩ := zpi h
  exact ret.1 _ _ _ _ ⟨hv3, Rw4⟩ rfl rfl rfl (zd tX4_firstBehind 15 rfl)
noncomputable def vsX4_sameWithin : List Cond := .code yX4_sameWithin cX4_sameWithin 8 (some .boolean) :: zbig
abbrev rmX4_sameWithin : Room := { frames := 1, cells := 0, slots := 0, locals := 22 }
theorem pX4_sameWithin : yX4_sameWithin.cls = RX4 ∧ yX4_sameWithin.cls ≠ "java/lang/invoke/MethodHandle" ∧ yX4_sameWithin.cls ≠ "java/lang/invoke/VarHandle" ∧ (parseMethodDescriptor yX4_sameWithin.desc).map (fun d => d.parameters.length) = some 3 := by decide +kernel
set_option maxRecDepth 100000 in
set_option maxHeartbeats 4000000 in
theorem jX4_sameWithin_J80 {E : zE} (C : zC E 137 cX4_sameWithin RX4 vsX4_sameWithin) (hN : zEN E = 8) (ho : zEo E = 0) (hz : zEz E = False) (hRm : zER E = rmX4_sameWithin) (rc : zHp → Nat → Nat → Int → Int → Int → Int → Int → Option ((zHp × Int) ⊕ (zHp × (Int)))) (res : ((zHp × Int) ⊕ (zHp × (Int)))) (v : zHp) (a0 : Nat) (a1 : Nat) (x2 : Int) (x3 : Int) (x4 : Int) (x5 : Int) (x6 : Int) (x7 : Int) (s0 : Int) (s1 : Int) (K1 : ∀ (w : zHp) (q : Int), res = .inr (w, q) → zV 0 137 w → True → zX E 0 0 137 w 156 [none, none, none, none, none, none, none, none] []) (K2 : ∀ (w : zHp) (r : Int), res = .inl (w, r) → zRet E cX4_sameWithin 0 0 137 (some .boolean) (zV 0 137 w ∧ zR r) (some (zi r)) w) (hrc0 : True) (h : fX4_sameWithin_J80 rc v a0 a1 x2 x3 x4 x5 x6 x7 s0 s1 = some res) (hv : zV 0 137 v) (ga0 : zG E 137 a0 4 3) (ga1 : zG E 137 a1 4 3) (Rx2 : zR x2) (Rx3 : zR x3) (Rx4 : zR x4) (Rx5 : zR x5) (Rx6 : zR x6) (Rx7 : zR x7) (Rs0 : zR s0) (Rs1 : zR s1) (hrc : ∀ (v : zHp) (z4 : Int) (z5 : Int) (z6 : Int), rc v a0 a1 x2 x3 z4 z5 z6 = some res → zV 0 137 v → zR z4 → zR z5 → zR z6 → zX E 0 0 137 v 17 [some (zr a0), some (zr a1), some (zi x2), some (zi x3), some (zi z4), some (zi z5), some (zi z6), none] []): zX E 0 0 137 v 80 [some (zr a0), some (zr a1), some (zi x2), some (zi x3), some (zi x4), some (zi x5), some (zi x6), some (zi x7)] [zi s1, zi s0] := by
  unfold fX4_sameWithin_J80 at h
  refine z_icmp_eq (tgt := 85) C Rs0 Rs1 (zd tX4_sameWithin 42 rfl) (by decide) h (fun h => ?_) (fun h => ?_)
  · refine z_iload C (zd tX4_sameWithin 45 rfl) rfl ?_
    refine z_if_ne (tgt := 92) C Rx7 (zd tX4_sameWithin 46 rfl) (by decide) h (fun h => ?_) (fun h => ?_)
    · refine z_aload_n C (zd tX4_sameWithin 49 rfl) rfl ?_
      refine gl_4_0 C ga0 zic_4 (zm zwd_242) (vl_4_0 ho hv ga0) (zd tX4_sameWithin 50 rfl) ?_
      refine z_iload C (zd tX4_sameWithin 51 rfl) rfl ?_
      obtain ⟨q7, h⟩ := zck_some h
      refine za_iald C (lk_4_0 ho ga0) rfl (by decide) q7 (zd tX4_sameWithin 52 rfl) ?_
      refine z_iload_n C (zd tX4_sameWithin 53 rfl) rfl ?_
      refine z_max C hRm (hv.1 _ _) Rx2 ⟨(zm zwd_711), (zm zwd_712), (zm zwd_14), (zm zwd_713)⟩ ⟨Nat.le_of_ble_eq_true rfl, Nat.le_of_ble_eq_true rfl, Nat.zero_le _, Nat.zero_le _⟩ (zd tX4_sameWithin 54 rfl) ?_
      refine z_aload_n C (zd tX4_sameWithin 55 rfl) rfl ?_
      refine gl_4_0 C ga1 zic_4 (zm zwd_242) (vl_4_0 ho hv ga1) (zd tX4_sameWithin 56 rfl) ?_
      refine z_iload C (zd tX4_sameWithin 57 rfl) rfl ?_
      obtain ⟨q8, h⟩ := zck_some h
      refine za_iald C (lk_4_0 ho ga1) rfl (by decide) q8 (zd tX4_sameWithin 58 rfl) ?_
      refine z_iload_n C (zd tX4_sameWithin 59 rfl) rfl ?_
      refine z_max C hRm (hv.1 _ _) Rx2 ⟨(zm zwd_711), (zm zwd_712), (zm zwd_14), (zm zwd_713)⟩ ⟨Nat.le_of_ble_eq_true rfl, Nat.le_of_ble_eq_true rfl, Nat.zero_le _, Nat.zero_le _⟩ (zd tX4_sameWithin 60 rfl) ?_
      refine z_icmp_ne (tgt := 142) C (zR_max (hv.1 _ _) Rx2) (zR_max (hv.1 _ _) Rx2) (zd tX4_sameWithin 61 rfl) (by decide) h (fun h => ?_) (fun h => ?_)
      · refine z_iconst C (zd tX4_sameWithin 75 rfl) ?_
        have K2 := K2 _ _ (Option.some.inj h).symm
        exact K2.1 _ _ _ _ ⟨hv, (zR_c 0 rfl)⟩ rfl rfl (by decide) (zd tX4_sameWithin 76 rfl)
      · refine z_aload_n C (zd tX4_sameWithin 62 rfl) rfl ?_
        refine gl_4_1 C ga0 zic_4 (zm zwd_244) (vl_4_1 ho hv ga0) (zd tX4_sameWithin 63 rfl) ?_
        refine z_iload C (zd tX4_sameWithin 64 rfl) rfl ?_
        obtain ⟨q9, h⟩ := zck_some h
        refine za_iald C (lk_4_1 ho ga0) rfl (by decide) q9 (zd tX4_sameWithin 65 rfl) ?_
        refine z_iload_n C (zd tX4_sameWithin 66 rfl) rfl ?_
        refine z_min C hRm (hv.1 _ _) Rx3 ⟨(zm zwd_714), (zm zwd_457), (zm zwd_14), (zm zwd_458)⟩ ⟨Nat.le_of_ble_eq_true rfl, Nat.le_of_ble_eq_true rfl, Nat.zero_le _, Nat.zero_le _⟩ (zd tX4_sameWithin 67 rfl) ?_
        refine z_aload_n C (zd tX4_sameWithin 68 rfl) rfl ?_
        refine gl_4_1 C ga1 zic_4 (zm zwd_244) (vl_4_1 ho hv ga1) (zd tX4_sameWithin 69 rfl) ?_
        refine z_iload C (zd tX4_sameWithin 70 rfl) rfl ?_
        obtain ⟨q10, h⟩ := zck_some h
        refine za_iald C (lk_4_1 ho ga1) rfl (by decide) q10 (zd tX4_sameWithin 71 rfl) ?_
        refine z_iload_n C (zd tX4_sameWithin 72 rfl) rfl ?_
        refine z_min C hRm (hv.1 _ _) Rx3 ⟨(zm zwd_714), (zm zwd_457), (zm zwd_14), (zm zwd_458)⟩ ⟨Nat.le_of_ble_eq_true rfl, Nat.le_of_ble_eq_true rfl, Nat.zero_le _, Nat.zero_le _⟩ (zd tX4_sameWithin 73 rfl) ?_
        refine z_icmp_eq (tgt := 144) C (zR_min (hv.1 _ _) Rx3) (zR_min (hv.1 _ _) Rx3) (zd tX4_sameWithin 74 rfl) (by decide) h (fun h => ?_) (fun h => ?_)
        · obtain ⟨t11, et11, Rt11, h⟩ := zn_some h
          refine z_iincE C (zd tX4_sameWithin 77 rfl) (by rw [hN]; decide) rfl et11 ?_
          obtain ⟨t12, et12, Rt12, h⟩ := zn_some h
          refine z_iincE C (zd tX4_sameWithin 78 rfl) (by rw [hN]; decide) rfl et12 ?_
          obtain ⟨t13, et13, Rt13, h⟩ := zn_some h
          refine z_iincE C (zd tX4_sameWithin 79 rfl) (by rw [hN]; decide) rfl et13 ?_
          refine z_goto (tgt := 17) C (zd tX4_sameWithin 80 rfl) (by decide) ?_
          refine z_sub (lo' := [some (zr a0), some (zr a1), some (zi x2), some (zi x3), some (zi t11), some (zi t12), some (zi t13), none]) (zsub_s (zsub_s (zsub_s (zsub_s (zsub_s (zsub_s (zsub_s (zsub_n zsub_0)))))))) ?_
          exact hrc v t11 t12 t13 h hv Rt11 Rt12 Rt13
        · refine z_iconst C (zd tX4_sameWithin 75 rfl) ?_
          have K2 := K2 _ _ (Option.some.inj h).symm
          exact K2.1 _ _ _ _ ⟨hv, (zR_c 0 rfl)⟩ rfl rfl (by decide) (zd tX4_sameWithin 76 rfl)
    · refine z_iconst C (zd tX4_sameWithin 47 rfl) ?_
      have K2 := K2 _ _ (Option.some.inj h).symm
      exact K2.1 _ _ _ _ ⟨hv, (zR_c 1 rfl)⟩ rfl rfl (by decide) (zd tX4_sameWithin 48 rfl)
  · refine z_iconst C (zd tX4_sameWithin 43 rfl) ?_
    have K2 := K2 _ _ (Option.some.inj h).symm
    exact K2.1 _ _ _ _ ⟨hv, (zR_c 0 rfl)⟩ rfl rfl (by decide) (zd tX4_sameWithin 44 rfl)
set_option maxRecDepth 100000 in
set_option maxHeartbeats 4000000 in
theorem jX4_sameWithin_J79 {E : zE} (C : zC E 137 cX4_sameWithin RX4 vsX4_sameWithin) (hN : zEN E = 8) (ho : zEo E = 0) (hz : zEz E = False) (hRm : zER E = rmX4_sameWithin) (rc : zHp → Nat → Nat → Int → Int → Int → Int → Int → Option ((zHp × Int) ⊕ (zHp × (Int)))) (res : ((zHp × Int) ⊕ (zHp × (Int)))) (v : zHp) (a0 : Nat) (a1 : Nat) (x2 : Int) (x3 : Int) (x4 : Int) (x5 : Int) (x6 : Int) (x7 : Int) (s0 : Int) (K1 : ∀ (w : zHp) (q : Int), res = .inr (w, q) → zV 0 137 w → True → zX E 0 0 137 w 156 [none, none, none, none, none, none, none, none] []) (K2 : ∀ (w : zHp) (r : Int), res = .inl (w, r) → zRet E cX4_sameWithin 0 0 137 (some .boolean) (zV 0 137 w ∧ zR r) (some (zi r)) w) (hrc0 : True) (h : fX4_sameWithin_J79 rc v a0 a1 x2 x3 x4 x5 x6 x7 s0 = some res) (hv : zV 0 137 v) (ga0 : zG E 137 a0 4 3) (ga1 : zG E 137 a1 4 3) (Rx2 : zR x2) (Rx3 : zR x3) (Rx4 : zR x4) (Rx5 : zR x5) (Rx6 : zR x6) (Rx7 : zR x7) (Rs0 : zR s0) (hrc : ∀ (v : zHp) (z4 : Int) (z5 : Int) (z6 : Int), rc v a0 a1 x2 x3 z4 z5 z6 = some res → zV 0 137 v → zR z4 → zR z5 → zR z6 → zX E 0 0 137 v 17 [some (zr a0), some (zr a1), some (zi x2), some (zi x3), some (zi z4), some (zi z5), some (zi z6), none] []): zX E 0 0 137 v 79 [some (zr a0), some (zr a1), some (zi x2), some (zi x3), some (zi x4), some (zi x5), some (zi x6), some (zi x7)] [zi s0] := by
  unfold fX4_sameWithin_J79 at h
  refine z_iconst C (zd tX4_sameWithin 41 rfl) ?_
  refine z_sub (lo' := [some (zr a0), some (zr a1), some (zi x2), some (zi x3), some (zi x4), some (zi x5), some (zi x6), some (zi x7)]) (zsub_s (zsub_s (zsub_s (zsub_s (zsub_s (zsub_s (zsub_s (zsub_s zsub_0)))))))) ?_
  exact jX4_sameWithin_J80 C hN ho hz hRm _ _ v a0 a1 x2 x3 x4 x5 x6 x7 s0 0 K1 K2 trivial h hv ga0 ga1 Rx2 Rx3 Rx4 Rx5 Rx6 Rx7 Rs0 (zR_c 0 rfl) hrc
set_option maxRecDepth 100000 in
set_option maxHeartbeats 4000000 in
theorem jX4_sameWithin_J51 {E : zE} (C : zC E 137 cX4_sameWithin RX4 vsX4_sameWithin) (hN : zEN E = 8) (ho : zEo E = 0) (hz : zEz E = False) (hRm : zER E = rmX4_sameWithin) (rc : zHp → Nat → Nat → Int → Int → Int → Int → Int → Option ((zHp × Int) ⊕ (zHp × (Int)))) (res : ((zHp × Int) ⊕ (zHp × (Int)))) (v : zHp) (a0 : Nat) (a1 : Nat) (x2 : Int) (x3 : Int) (x4 : Int) (x5 : Int) (x6 : Int) (s0 : Int) (K1 : ∀ (w : zHp) (q : Int), res = .inr (w, q) → zV 0 137 w → True → zX E 0 0 137 w 156 [none, none, none, none, none, none, none, none] []) (K2 : ∀ (w : zHp) (r : Int), res = .inl (w, r) → zRet E cX4_sameWithin 0 0 137 (some .boolean) (zV 0 137 w ∧ zR r) (some (zi r)) w) (hrc0 : True) (h : fX4_sameWithin_J51 rc v a0 a1 x2 x3 x4 x5 x6 s0 = some res) (hv : zV 0 137 v) (ga0 : zG E 137 a0 4 3) (ga1 : zG E 137 a1 4 3) (Rx2 : zR x2) (Rx3 : zR x3) (Rx4 : zR x4) (Rx5 : zR x5) (Rx6 : zR x6) (Rs0 : zR s0) (hrc : ∀ (v : zHp) (z4 : Int) (z5 : Int) (z6 : Int), rc v a0 a1 x2 x3 z4 z5 z6 = some res → zV 0 137 v → zR z4 → zR z5 → zR z6 → zX E 0 0 137 v 17 [some (zr a0), some (zr a1), some (zi x2), some (zi x3), some (zi z4), some (zi z5), some (zi z6), none] []): zX E 0 0 137 v 51 [some (zr a0), some (zr a1), some (zi x2), some (zi x3), some (zi x4), some (zi x5), some (zi x6), none] [zi s0] := by
  unfold fX4_sameWithin_J51 at h
  refine z_istore C (zd tX4_sameWithin 27 rfl) (by rw [hN]; decide) ?_
  refine z_iload C (zd tX4_sameWithin 28 rfl) rfl ?_
  refine z_iload C (zd tX4_sameWithin 29 rfl) rfl ?_
  refine z_aload_n C (zd tX4_sameWithin 30 rfl) rfl ?_
  refine gf_4_2 C ga1 zic_4 (zm zwd_246) (zd tX4_sameWithin 31 rfl) ?_
  refine z_icmp_ge (tgt := 79) C Rx5 (hv.1 _ _) (zd tX4_sameWithin 32 rfl) (by decide) h (fun h => ?_) (fun h => ?_)
  · refine z_sub (lo' := [some (zr a0), some (zr a1), some (zi x2), some (zi x3), some (zi x4), some (zi x5), some (zi x6), some (zi s0)]) (zsub_s (zsub_s (zsub_s (zsub_s (zsub_s (zsub_s (zsub_s (zsub_s zsub_0)))))))) ?_
    exact jX4_sameWithin_J79 C hN ho hz hRm _ _ v a0 a1 x2 x3 x4 x5 x6 s0 s0 K1 K2 trivial h hv ga0 ga1 Rx2 Rx3 Rx4 Rx5 Rx6 Rs0 Rs0 hrc
  · refine z_aload_n C (zd tX4_sameWithin 33 rfl) rfl ?_
    refine gl_4_0 C ga1 zic_4 (zm zwd_242) (vl_4_0 ho hv ga1) (zd tX4_sameWithin 34 rfl) ?_
    refine z_iload C (zd tX4_sameWithin 35 rfl) rfl ?_
    obtain ⟨q14, h⟩ := zck_some h
    refine za_iald C (lk_4_0 ho ga1) rfl (by decide) q14 (zd tX4_sameWithin 36 rfl) ?_
    refine z_iload_n C (zd tX4_sameWithin 37 rfl) rfl ?_
    refine z_icmp_ge (tgt := 79) C (hv.1 _ _) Rx3 (zd tX4_sameWithin 38 rfl) (by decide) h (fun h => ?_) (fun h => ?_)
    · refine z_sub (lo' := [some (zr a0), some (zr a1), some (zi x2), some (zi x3), some (zi x4), some (zi x5), some (zi x6), some (zi s0)]) (zsub_s (zsub_s (zsub_s (zsub_s (zsub_s (zsub_s (zsub_s (zsub_s zsub_0)))))))) ?_
      exact jX4_sameWithin_J79 C hN ho hz hRm _ _ v a0 a1 x2 x3 x4 x5 x6 s0 s0 K1 K2 trivial h hv ga0 ga1 Rx2 Rx3 Rx4 Rx5 Rx6 Rs0 Rs0 hrc
    · refine z_iconst C (zd tX4_sameWithin 39 rfl) ?_
      refine z_goto (tgt := 80) C (zd tX4_sameWithin 40 rfl) (by decide) ?_
      refine z_sub (lo' := [some (zr a0), some (zr a1), some (zi x2), some (zi x3), some (zi x4), some (zi x5), some (zi x6), some (zi s0)]) (zsub_s (zsub_s (zsub_s (zsub_s (zsub_s (zsub_s (zsub_s (zsub_s zsub_0)))))))) ?_
      exact jX4_sameWithin_J80 C hN ho hz hRm _ _ v a0 a1 x2 x3 x4 x5 x6 s0 s0 1 K1 K2 trivial h hv ga0 ga1 Rx2 Rx3 Rx4 Rx5 Rx6 Rs0 Rs0 (zR_c 1 rfl) hrc
set_option maxRecDepth 100000 in
set_option maxHeartbeats 4000000 in
theorem jX4_sameWithin_J50 {E : zE} (C : zC E 137 cX4_sameWithin RX4 vsX4_sameWithin) (hN : zEN E = 8) (ho : zEo E = 0) (hz : zEz E = False) (hRm : zER E = rmX4_sameWithin) (rc : zHp → Nat → Nat → Int → Int → Int → Int → Int → Option ((zHp × Int) ⊕ (zHp × (Int)))) (res : ((zHp × Int) ⊕ (zHp × (Int)))) (v : zHp) (a0 : Nat) (a1 : Nat) (x2 : Int) (x3 : Int) (x4 : Int) (x5 : Int) (x6 : Int) (K1 : ∀ (w : zHp) (q : Int), res = .inr (w, q) → zV 0 137 w → True → zX E 0 0 137 w 156 [none, none, none, none, none, none, none, none] []) (K2 : ∀ (w : zHp) (r : Int), res = .inl (w, r) → zRet E cX4_sameWithin 0 0 137 (some .boolean) (zV 0 137 w ∧ zR r) (some (zi r)) w) (hrc0 : True) (h : fX4_sameWithin_J50 rc v a0 a1 x2 x3 x4 x5 x6 = some res) (hv : zV 0 137 v) (ga0 : zG E 137 a0 4 3) (ga1 : zG E 137 a1 4 3) (Rx2 : zR x2) (Rx3 : zR x3) (Rx4 : zR x4) (Rx5 : zR x5) (Rx6 : zR x6) (hrc : ∀ (v : zHp) (z4 : Int) (z5 : Int) (z6 : Int), rc v a0 a1 x2 x3 z4 z5 z6 = some res → zV 0 137 v → zR z4 → zR z5 → zR z6 → zX E 0 0 137 v 17 [some (zr a0), some (zr a1), some (zi x2), some (zi x3), some (zi z4), some (zi z5), some (zi z6), none] []): zX E 0 0 137 v 50 [some (zr a0), some (zr a1), some (zi x2), some (zi x3), some (zi x4), some (zi x5), some (zi x6), none] [] := by
  unfold fX4_sameWithin_J50 at h
  refine z_iconst C (zd tX4_sameWithin 26 rfl) ?_
  refine z_sub (lo' := [some (zr a0), some (zr a1), some (zi x2), some (zi x3), some (zi x4), some (zi x5), some (zi x6), none]) (zsub_s (zsub_s (zsub_s (zsub_s (zsub_s (zsub_s (zsub_s (zsub_n zsub_0)))))))) ?_
  exact jX4_sameWithin_J51 C hN ho hz hRm _ _ v a0 a1 x2 x3 x4 x5 x6 0 K1 K2 trivial h hv ga0 ga1 Rx2 Rx3 Rx4 Rx5 Rx6 (zR_c 0 rfl) hrc
set_option maxRecDepth 100000 in
set_option maxHeartbeats 4000000 in
theorem bX4_sameWithin_L17 {E : zE} (C : zC E 137 cX4_sameWithin RX4 vsX4_sameWithin) (hN : zEN E = 8) (ho : zEo E = 0) (hz : zEz E = False) (hRm : zER E = rmX4_sameWithin) : ∀ (fu : Nat) (v : zHp) (a0 : Nat) (a1 : Nat) (x2 : Int) (x3 : Int) (x4 : Int) (x5 : Int) (x6 : Int) (res : ((zHp × Int) ⊕ (zHp × (Int)))), fX4_sameWithin_L17 fu v a0 a1 x2 x3 x4 x5 x6 = some res → zV 0 137 v → zG E 137 a0 4 3 → zG E 137 a1 4 3 → zR x2 → zR x3 → zR x4 → zR x5 → zR x6 → (∀ (w : zHp) (q : Int), res = .inr (w, q) → zV 0 137 w → True → zX E 0 0 137 w 156 [none, none, none, none, none, none, none, none] []) → (∀ (w : zHp) (r : Int), res = .inl (w, r) → zRet E cX4_sameWithin 0 0 137 (some .boolean) (zV 0 137 w ∧ zR r) (some (zi r)) w) → zX E 0 0 137 v 17 [some (zr a0), some (zr a1), some (zi x2), some (zi x3), some (zi x4), some (zi x5), some (zi x6), none] [] := by
  intro fu
  induction fu with
  | zero =>
    intro v _ _ _ _ _ _ _ res h
    cases h
  | succ fu ih =>
    intro v a0 a1 x2 x3 x4 x5 x6 res h hv ga0 ga1 Rx2 Rx3 Rx4 Rx5 Rx6 K1 K2
    rw [fX4_sameWithin_L17.eq_2] at h
    refine z_iload C (zd tX4_sameWithin 10 rfl) rfl ?_
    refine z_aload_n C (zd tX4_sameWithin 11 rfl) rfl ?_
    refine gf_4_2 C ga0 zic_4 (zm zwd_246) (zd tX4_sameWithin 12 rfl) ?_
    refine z_icmp_gt (tgt := 156) C Rx6 (hv.1 _ _) (zd tX4_sameWithin 13 rfl) (by decide) h (fun h => ?_) (fun h => ?_)
    · refine z_sub (lo' := [none, none, none, none, none, none, none, none]) (zsub_n (zsub_n (zsub_n (zsub_n (zsub_n (zsub_n (zsub_n (zsub_n zsub_0)))))))) ?_
      exact K1 _ _ (Option.some.inj h).symm hv trivial
    · refine z_iload C (zd tX4_sameWithin 14 rfl) rfl ?_
      refine z_aload_n C (zd tX4_sameWithin 15 rfl) rfl ?_
      refine gf_4_2 C ga0 zic_4 (zm zwd_246) (zd tX4_sameWithin 16 rfl) ?_
      refine z_icmp_ge (tgt := 50) C Rx4 (hv.1 _ _) (zd tX4_sameWithin 17 rfl) (by decide) h (fun h => ?_) (fun h => ?_)
      · refine z_sub (lo' := [some (zr a0), some (zr a1), some (zi x2), some (zi x3), some (zi x4), some (zi x5), some (zi x6), none]) (zsub_s (zsub_s (zsub_s (zsub_s (zsub_s (zsub_s (zsub_s (zsub_n zsub_0)))))))) ?_
        exact jX4_sameWithin_J50 C hN ho hz hRm _ _ v a0 a1 x2 x3 x4 x5 x6 K1 K2 trivial h hv ga0 ga1 Rx2 Rx3 Rx4 Rx5 Rx6 (fun w z4 z5 z6 hw hvw y4 y5 y6 => ih w a0 a1 x2 x3 z4 z5 z6 _ hw hvw ga0 ga1 Rx2 Rx3 y4 y5 y6 K1 K2)
      · refine z_aload_n C (zd tX4_sameWithin 18 rfl) rfl ?_
        refine gl_4_0 C ga0 zic_4 (zm zwd_242) (vl_4_0 ho hv ga0) (zd tX4_sameWithin 19 rfl) ?_
        refine z_iload C (zd tX4_sameWithin 20 rfl) rfl ?_
        obtain ⟨q15, h⟩ := zck_some h
        refine za_iald C (lk_4_0 ho ga0) rfl (by decide) q15 (zd tX4_sameWithin 21 rfl) ?_
        refine z_iload_n C (zd tX4_sameWithin 22 rfl) rfl ?_
        refine z_icmp_ge (tgt := 50) C (hv.1 _ _) Rx3 (zd tX4_sameWithin 23 rfl) (by decide) h (fun h => ?_) (fun h => ?_)
        · refine z_sub (lo' := [some (zr a0), some (zr a1), some (zi x2), some (zi x3), some (zi x4), some (zi x5), some (zi x6), none]) (zsub_s (zsub_s (zsub_s (zsub_s (zsub_s (zsub_s (zsub_s (zsub_n zsub_0)))))))) ?_
          exact jX4_sameWithin_J50 C hN ho hz hRm _ _ v a0 a1 x2 x3 x4 x5 x6 K1 K2 trivial h hv ga0 ga1 Rx2 Rx3 Rx4 Rx5 Rx6 (fun w z4 z5 z6 hw hvw y4 y5 y6 => ih w a0 a1 x2 x3 z4 z5 z6 _ hw hvw ga0 ga1 Rx2 Rx3 y4 y5 y6 K1 K2)
        · refine z_iconst C (zd tX4_sameWithin 24 rfl) ?_
          refine z_goto (tgt := 51) C (zd tX4_sameWithin 25 rfl) (by decide) ?_
          refine z_sub (lo' := [some (zr a0), some (zr a1), some (zi x2), some (zi x3), some (zi x4), some (zi x5), some (zi x6), none]) (zsub_s (zsub_s (zsub_s (zsub_s (zsub_s (zsub_s (zsub_s (zsub_n zsub_0)))))))) ?_
          exact jX4_sameWithin_J51 C hN ho hz hRm _ _ v a0 a1 x2 x3 x4 x5 x6 1 K1 K2 trivial h hv ga0 ga1 Rx2 Rx3 Rx4 Rx5 Rx6 (zR_c 1 rfl) (fun w z4 z5 z6 hw hvw y4 y5 y6 => ih w a0 a1 x2 x3 z4 z5 z6 _ hw hvw ga0 ga1 Rx2 Rx3 y4 y5 y6 K1 K2)
set_option maxRecDepth 100000 in
set_option maxHeartbeats 4000000 in
theorem qX4_sameWithin (l : Launch) (D : va_G) (ids : Nat → ClassId) (b : Nat) {a0 : Nat} (k0 : zK a0 = (4, 3)) {a1 : Nat} (k1 : zK a1 = (4, 3)) {x2 : Int} (Rx2 : zR x2) {x3 : Int} (Rx3 : zR x3) {v v' : zHp} {r' : Int} (hv : zV 0 137 v) (h : fX4_sameWithin v a0 a1 x2 x3 = some (v', r')) : zCT l yX4_sameWithin vsX4_sameWithin rmX4_sameWithin D ids b 0 False 137 [zr a0, zr a1, zi x2, zi x3] v 137 (zV 0 137 v' ∧ zR r') (some (zi r')) v' 0 0 := by
  refine zMet (own := RX4) (by decide +kernel) (show vsX4_sameWithin = _ from rfl) (Nat.le_of_ble_eq_true rfl) rfl ?_
  intro E hl hRm hD hids hb ho hz hN C hname ret
  subst hl hD hids hb
  have ga0 := kg_4 ho k0
  have ga1 := kg_4 ho k1
  unfold fX4_sameWithin at h
  refine z_aload_n C (zd tX4_sameWithin 0 rfl) rfl ?_
  refine z_iload_n C (zd tX4_sameWithin 1 rfl) rfl ?_
  obtain ⟨v1, r2, cv1, h⟩ := zcl_some h
  refine zc_V C ho hz hRm (qX4_firstBehind _ _ _ _ ga0.1 Rx2 hv cv1) ga0 (by decide) rfl (zgV zwd_707 zwd_709 zws_15 zwd_9 zwd_710) rfl pX4_firstBehind rfl ⟨rfl, rfl⟩ ⟨Nat.le_of_ble_eq_true rfl, Nat.le_of_ble_eq_true rfl⟩ [] rfl (Nat.le_of_ble_eq_true rfl) (zd tX4_sameWithin 2 rfl) [zi r2] rfl (fun p3 => ?_)
  refine z_istore C (zd tX4_sameWithin 3 rfl) (by rw [hN]; decide) ?_
  refine z_aload_n C (zd tX4_sameWithin 4 rfl) rfl ?_
  refine z_iload_n C (zd tX4_sameWithin 5 rfl) rfl ?_
  obtain ⟨v4, r5, cv4, h⟩ := zcl_some h
  refine zc_V C ho hz hRm (qX4_firstBehind _ _ _ _ ga1.1 Rx2 p3.1 cv4) ga1 (by decide) rfl (zgV zwd_707 zwd_709 zws_15 zwd_9 zwd_710) rfl pX4_firstBehind rfl ⟨rfl, rfl⟩ ⟨Nat.le_of_ble_eq_true rfl, Nat.le_of_ble_eq_true rfl⟩ [] rfl (Nat.le_of_ble_eq_true rfl) (zd tX4_sameWithin 6 rfl) [zi r5] rfl (fun p6 => ?_)
  refine z_istore C (zd tX4_sameWithin 7 rfl) (by rw [hN]; decide) ?_
  refine z_iconst C (zd tX4_sameWithin 8 rfl) ?_
  refine z_istore C (zd tX4_sameWithin 9 rfl) (by rw [hN]; decide) ?_
  refine z_sub (lo' := [some (zr a0), some (zr a1), some (zi x2), some (zi x3), some (zi r2), some (zi r5), some (zi 0), none]) (zsub_s (zsub_s (zsub_s (zsub_s (zsub_s (zsub_s (zsub_s (zsub_n zsub_0)))))))) ?_
  rcases zlf_some h with lv16 | ⟨v16, w17, lv16, h⟩
  · exact bX4_sameWithin_L17 C hN ho hz hRm zFU v4 a0 a1 x2 x3 r2 r5 0 _ lv16 p6.1 ga0 ga1 Rx2 Rx3 p3.2 p6.2 (zR_c 0 rfl) (fun _ _ e => by cases e) (fun _ _ e => by obtain ⟨rfl, rfl⟩ := zpp (Sum.inl.inj e); exact ret)
  · refine bX4_sameWithin_L17 C hN ho hz hRm zFU v4 a0 a1 x2 x3 r2 r5 0 _ lv16 p6.1 ga0 ga1 Rx2 Rx3 p3.2 p6.2 (zR_c 0 rfl) (fun w1 q1 e1 hv16 Rw17 => ?_) (fun _ _ e => by cases e)
    obtain ⟨rfl, rfl⟩ := zpp (Sum.inr.inj e1)
    refine z_iconst C (zd tX4_sameWithin 81 rfl) ?_
    obtain ⟨rfl, rfl⟩ := zpi h
    exact ret.1 _ _ _ _ ⟨hv16, (zR_c 1 rfl)⟩ rfl rfl (by decide) (zd tX4_sameWithin 82 rfl)
