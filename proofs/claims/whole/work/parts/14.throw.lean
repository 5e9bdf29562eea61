/-! the two methods that may throw. By wip/whole/genthrow.py. -/
abbrev zNS : String := "java/util/NoSuchElementException"
abbrev zNn : List String := ["java/lang/RuntimeException", "java/lang/Exception"]
/-- what a throw needs of the tables and the heap beyond zbig -/
def zTw (A : Nat → Prop) (U : State) (H : Heap) : Prop := (va_Nw (.castable zNS zNS) U ∧ va_Nw (.declares (Bundle.init0 "java/lang/RuntimeException")) U ∧ va_Nw (.declares (Bundle.init0 "java/lang/Exception")) U ∧ va_Nw (.declares (Bundle.init0 Bundle.tN)) U) ∧ vx_Zq Bundle.tN "UNASSIGNED_STACK" Bundle.steD A U H ∧ vx_Zq Bundle.tN "SUPPRESSED_SENTINEL" Bundle.listD A U H
theorem zTw.call {A : Nat → Prop} {U : State} {H : Heap} {g : JFrame} {mk : MethodId} {a : Array Value} (h : zTw A U H) : zTw A (U.calling g mk a) H := ⟨⟨va_Nw.same rfl (u := U) (U := U.calling g mk a) rfl h.1.1, va_Nw.same rfl (u := U) (U := U.calling g mk a) rfl h.1.2.1, va_Nw.same rfl (u := U) (U := U.calling g mk a) rfl h.1.2.2.1, va_Nw.same rfl (u := U) (U := U.calling g mk a) rfl h.1.2.2.2⟩, vx_Zq.moved (u := U) (U := U.calling g mk a) (Vm.Alike.refl U.vm) h.2.1, vx_Zq.moved (u := U) (U := U.calling g mk a) (Vm.Alike.refl U.vm) h.2.2⟩
theorem zTw.warm {A : Nat → Prop} {s U : State} {H : Heap} (hW : s.WarmedH U.vm) (h : zTw A s H) : zTw A U H := ⟨⟨va_Nw.warmC hW h.1.1, va_Nw.warmD hW h.1.2.1, va_Nw.warmD hW h.1.2.2.1, va_Nw.warmD hW h.1.2.2.2⟩, vx_Zq.moved hW.alike h.2.1, vx_Zq.moved hW.alike h.2.2⟩
theorem zTw.kept {A : Nat → Prop} {U : State} {H H1 : Heap} (h : zTw A U H) (hq : ∀ a : Nat, a < H.size → ¬ A a → H1[a]? = H[a]?) : zTw A U H1 := ⟨h.1, h.2.1.kept hq, h.2.2.kept hq⟩
theorem zTw.narrow {A B : Nat → Prop} {U : State} {H : Heap} (h : zTw A U H) (hAB : ∀ q, B q → A q) : zTw B U H := ⟨h.1, h.2.1.narrow hAB, h.2.2.narrow hAB⟩
def zXC (D : va_G) (ids : Nat → ClassId) (b o nn : Nat) (Pf : Prop) (v1 : zHp) (sz : Nat) : String → State → State → Prop := fun E st t => E = zNS ∧ (Pf ∧ zWS D ids b o False nn v1 t) ∧ va_F (zA b o nn sz) st t
/-- a contract of a method that throws -/
def zCTX (l : Launch) (y : MethodName) (ws : List Cond) (rm : Room) (D : va_G) (ids : Nat → ClassId) (b o nn : Nat) (As : List zAV) (v : zHp) (Pf : Prop) (v1 : zHp) (mc ms : Nat) : Prop :=
  ∀ sz : Nat, vx_Met l y ws rm (va_Pc (As.map (zxv b)) (fun U => U.heap.size = sz ∧ zWS D ids b o False nn v U ∧ zTw (zA b o nn sz) U U.heap)) (fun _ _ _ _ => False) (zXC D ids b o nn Pf v1 sz) mc ms (zA b o nn sz)
theorem zPreX_blind {av : List Value} {sz : Nat} {D : va_G} {ids : Nat → ClassId} {b o : Nat} {zz : Prop} {nn : Nat} {v : zHp} : FrameBlind (va_Pc av (fun U => U.heap.size = sz ∧ zWS D ids b o zz nn v U ∧ zTw (zA b o nn sz) U U.heap)) := fun a U g mk q => by
  obtain ⟨q0, q1, q2, q3⟩ := q
  exact ⟨q0, q1, q2.moved (u := U) (U := U.calling g mk a) rfl (Vm.Alike.refl U.vm), q3.call⟩
theorem zTh_in0 : ∀ w ∈ (vx_at0 RX11 138 zNS zNn).filter goodWord, w ∈ lw_tbl := by decide +kernel
theorem zTh_in : ∀ w ∈ (vx_at0 RX11 138 zNS zNn).filter goodWord, w ∈ zbig := fun w hw => List.mem_filter.mpr ⟨zTh_in0 w hw, (List.mem_filter.mp hw).2⟩
theorem zTh_words {args : Array Value} {s : State} {A : Nat → Prop} {H : Heap} (ht : ∀ w ∈ zbig, w.before args s = true) (hT : zTw A s H) : ∀ w ∈ vx_at0 RX11 138 zNS zNn, w.before args s = true := by
  refine vx_hat (B := [.castable zNS zNS, .declares (Bundle.init0 "java/lang/RuntimeException"), .declares (Bundle.init0 "java/lang/Exception"), .declares (Bundle.init0 Bundle.tN)]) (fun w h => ht w (zTh_in w h)) (by decide +kernel) ?_
  exact vx_c (va_Nw.use rfl hT.1.1) (vx_c (va_Nw.use rfl hT.1.2.1) (vx_c (va_Nw.use rfl hT.1.2.2.1) (vx_c (va_Nw.use rfl hT.1.2.2.2) vx_n)))
theorem zTh_good : ∀ w ∈ Cond.classLink RX11 136 zNS :: Cond.initialized zNS :: vx_at0 RX11 138 zNS zNn, vx_ot w = true := by decide +kernel
def zThr (E : zE) (nn : Nat) (cc : ByteArray) (Pf : Prop) (v1 : zHp) : Prop := ∀ (pc : Nat) (lo : List (Option zAV)), decode cc pc = .ok (.new 136, 3) → decode cc (pc + 3) = .ok (.dup, 1) → decode cc (pc + 4) = .ok (.invokespecial 138, 3) → decode cc (pc + 7) = .ok (.athrow, 1) → Pf → zX E 0 0 nn v1 pc lo []
theorem zMetX {l : Launch} {y : MethodName} {c0 : Cond} {ws : List Cond} {rm : Room} {D : va_G} {ids : Nat → ClassId} {b o nn : Nat} {As : List zAV} {v v1 : zHp} {Pf : Prop} {maxL : Nat} {ret' : Option FieldType} {cc : ByteArray} (hst : l.stackTraces = false) (hy : plainName y.cls = true) (hw : ws = .code y cc maxL ret' :: zbig) (hlen : As.length ≤ maxL) (hown : y.cls = RX11) (hrm : 6 ≤ rm.frames ∧ 81 ≤ rm.locals ∧ 1 ≤ rm.cells ∧ 6 ≤ rm.slots)
    (body : ∀ E : zE, zEl E = l → zER E = rm → zED E = D → zEi E = ids → zEb E = b → zEo E = o → zEz E = False → zEN E = maxL → zC E nn cc RX11 ws → zThr E nn cc Pf v1 → zX E 0 0 nn v 0 (As.map some ++ List.replicate (maxL - As.length) none) []) : zCTX l y ws rm D ids b o nn As v Pf v1 1 6 := by
  intro sz
  refine vx_ofW (cc := cc) (maxL := maxL) (ret := ret') hy hw ?_
  intro p e s m args below meth c s₁ B hml htab hv
  obtain ⟨rfl, hsz, ⟨hP, hK, hZ⟩, hTw⟩ := hv
  have hx := B.exec
  have hb := B.bytes
  have hts := atoms_spec (ws := ws) B.pre
  have hownc : s.vm.findClass RX11 = some m.cls := by rw [← hown]; exact findClass_of_methodNamed B.named
  have hlocks := B.notSynchronized
  have hl := lv_entry (As.map (zxv b)) (n := maxL) (by rw [lg_sl_len]; exact hlen)
  rw [lg_entry_eq]
  generalize (lg_sl (As.map (zxv b)) ++ List.replicate (maxL - (lg_sl (As.map (zxv b))).length) Slot.unset).toArray = ls at hl ⊢
  have hA : ∀ q : Nat, s.heap.size ≤ q → zA b o nn sz q := fun q h => Or.inr (by rw [← hsz]; exact h)
  have hAn : ∀ i, i < nn → zA b o nn sz (b + (o + i)) := fun i h => Or.inl ⟨by omega, by omega⟩
  have htz : ∀ w ∈ zbig, w.before (As.map (zxv b)).toArray s = true := fun w h => hts w (by rw [hw]; exact List.mem_cons_of_mem _ h)
  refine body ((p, l, e, rm, s), (m, (As.map (zxv b)).toArray, below, meth, c), (D, ids, b, o, False), (s.heap, zA b o nn sz, maxL, vx_MQ below (fun _ _ _ _ => False) (zXC D ids b o nn Pf v1 sz) (As.map (zxv b)).toArray s 1 6 (zA b o nn sz))) rfl rfl rfl rfl rfl rfl rfl rfl ⟨hx, hb, hownc, hts, hK, hlocks, hml, hA, hAn⟩ ?_ s.heap [] ls hP va_S.rf hZ ⟨hl.1, hl.2.1, fun q hq => ?_⟩
  · intro pc lo d0 d3 d4 d7 hpf H locs ls hP1 hS1 hZ1 hl1
    show W p l e rm s m (As.map (zxv b)).toArray below meth c H locs 0 0 (vx_MQ below (fun _ _ _ _ => False) (zXC D ids b o nn Pf v1 sz) (As.map (zxv b)).toArray s 1 6 (zA b o nn sz)) (F0 m pc ls [])
    refine vx_throw0 (own := RX11) (cls := zNS) (names := zNn) (A := zA b o nn sz) hx hb hst hownc (by decide) (by decide) (htz _ zwd_894) (htz _ zwd_22) (zTh_words htz hTw) zTh_good hTw.2.1 hTw.2.2 hS1 (hl1.1.trans hml.symm) d0 d3 d4 d7 (fun x hx => (htab x hx).elim) hrm.1 hrm.2.1 hrm.2.2.1 hrm.2.2.2 hlocks (fun t hvm h1 h2 => ⟨rfl, ⟨hpf, hP1.kept fun k q hk => h2 _ (vx_lt hP1 hk), va_K.moved hvm hK, fun z => z.elim⟩, Nat.le_trans hS1.1 h1, fun q hq hAq => by rw [h2 q (Nat.lt_of_lt_of_le hq hS1.1)]; exact hS1.2.1 q hq hAq⟩) hS1.2.2 (Nat.le_refl _) (Nat.le_refl _)
  · obtain ⟨x, h1, h2⟩ := zpr_mem.mp hq
    have h3 := zpr_args (b := b) As 0 (maxL - As.length) q x h1 h2
    rw [Nat.zero_add] at h3
    exact hl.2.2 q h3
def fX11_premium (v : zHp) (x1 : Int) (x2 : Int) : Option (zHp × Int) := zcl (fX11_isPremium v x1) fun v1 r2 => if r2 = 0 then (none) else (if x2 < 0 then (none) else (if x2 ≤ 4 then (zb (v1 0 2).toNat fun u4 => zck (0 ≤ v1 0 2 ∧ zK u4 = (7, 10)) <| zck (0 ≤ x1 ∧ x1 < 8) <| zb (u4 + 2 + (2 + 1 * (x1).toNat)) fun u7 => if x2 = 0 then (some (v1, v1 u7 0)) else (if x2 = 1 then (some (v1, v1 u7 1)) else (if x2 = 2 then (if v1 u7 2 = 0 then (some (v1, 0)) else (some (v1, 1))) else (if x2 = 3 then (some (v1, v1 u7 3)) else (some (v1, v1 u7 4)))))) else (none)))
noncomputable def vsX11_premium : List Cond := .code yX11_premium cX11_premium 4 (some .int) :: zbig
abbrev rmX11_premium : Room := { frames := 1, cells := 0, slots := 0, locals := 21 }
theorem pX11_premium : yX11_premium.cls = RX11 ∧ yX11_premium.cls ≠ "java/lang/invoke/MethodHandle" ∧ yX11_premium.cls ≠ "java/lang/invoke/VarHandle" ∧ (parseMethodDescriptor yX11_premium.desc).map (fun d => d.parameters.length) = some 2 := by decide +kernel
set_option maxRecDepth 100000 in
set_option maxHeartbeats 4000000 in
theorem qX11_premium (l : Launch) (D : va_G) (ids : Nat → ClassId) (b : Nat) {x1 : Int} (Rx1 : zR x1) {x2 : Int} (Rx2 : zR x2) {v v' : zHp} {r' : Int} (hv : zV 0 137 v) (h : fX11_premium v x1 x2 = some (v', r')) : zCT l yX11_premium vsX11_premium rmX11_premium D ids b 0 False 137 [zr 0, zi x1, zi x2] v 137 (zV 0 137 v' ∧ zR r') (some (zi r')) v' 0 0 := by
  refine zMet (own := RX11) (by decide +kernel) (show vsX11_premium = _ from rfl) (Nat.le_of_ble_eq_true rfl) rfl ?_
  intro E hl hRm hD hids hb ho hz hN C hname ret
  subst hl hD hids hb
  unfold fX11_premium at h
  refine z_aload_n C (zd tX11_premium 0 rfl) rfl ?_
  refine z_iload_n C (zd tX11_premium 1 rfl) rfl ?_
  obtain ⟨v1, r2, cv1, h⟩ := zcl_some h
  refine zc_V C ho hz hRm (qX11_isPremium _ _ _ _ Rx1 hv cv1) (lg_0 ho) (by decide) rfl (zgV zwd_822 zwd_824 zws_26 zwd_1 zwd_825) rfl pX11_isPremium rfl ⟨rfl, rfl⟩ ⟨Nat.le_of_ble_eq_true rfl, Nat.le_of_ble_eq_true rfl⟩ [] rfl (Nat.le_of_ble_eq_true rfl) (zd tX11_premium 2 rfl) [zi r2] rfl (fun p3 => ?_)
  refine z_if_eq (tgt := 17) C p3.2 (zd tX11_premium 3 rfl) (by decide) h (fun h => ?_) (fun h => ?_)
  · cases h
  · refine z_iload_n C (zd tX11_premium 4 rfl) rfl ?_
    refine z_if_lt (tgt := 17) C Rx2 (zd tX11_premium 5 rfl) (by decide) h (fun h => ?_) (fun h => ?_)
    · cases h
    · refine z_iload_n C (zd tX11_premium 6 rfl) rfl ?_
      refine z_iconst C (zd tX11_premium 7 rfl) ?_
      refine z_icmp_le (tgt := 25) C Rx2 (zR_c 4 rfl) (zd tX11_premium 8 rfl) (by decide) h (fun h => ?_) (fun h => ?_)
      · refine z_aload_n C (zd tX11_premium 13 rfl) rfl ?_
        obtain ⟨u4, eu4, h⟩ := zb_some h
        obtain ⟨q5, h⟩ := zck_some h
        have gu4 := kg_7 ho q5.2
        refine gl_11_2 C (lg_0 ho) zic_11 (zm zwd_402) (zdyn q5.1 eu4) (zd tX11_premium 14 rfl) ?_
        refine gl_7_1 C gu4 zic_7 (zm zwd_155) (vl_7_1 ho p3.1 gu4) (zd tX11_premium 15 rfl) ?_
        refine z_iload_n C (zd tX11_premium 16 rfl) rfl ?_
        obtain ⟨q6, h⟩ := zck_some h
        obtain ⟨u7, eu7, h⟩ := zb_some h
        have gu7 := ge_Premium ho (lk_7_1 ho gu4) q6 eu7
        refine ra_Premium C ho p3.1 (lk_7_1 ho gu4) q6 eu7 (zd tX11_premium 17 rfl) ?_
        refine z_astore_n C (zd tX11_premium 18 rfl) (by rw [hN]; decide) ?_
        refine z_iload_n C (zd tX11_premium 19 rfl) rfl ?_
        by_cases c36_0 : x2 = 0
        · rw [if_pos c36_0] at h
          refine z_tblIn (tgt := 68) C Rx2 c36_0 (zd tX11_premium 20 rfl) (by decide) (by decide) rfl (by decide) ?_
          refine z_aload_n C (zd tX11_premium 21 rfl) rfl ?_
          refine gf_5_0 C gu7 zic_5 (zm zwd_111) (zd tX11_premium 22 rfl) ?_
          obtain ⟨rfl, rfl⟩ := zpi h
          exact ret.1 _ _ _ _ ⟨p3.1, (p3.1.1 _ _)⟩ rfl rfl rfl (zd tX11_premium 23 rfl)
        rw [if_neg c36_0] at h
        by_cases c36_1 : x2 = 1
        · rw [if_pos c36_1] at h
          refine z_tblIn (tgt := 73) C Rx2 c36_1 (zd tX11_premium 20 rfl) (by decide) (by decide) rfl (by decide) ?_
          refine z_aload_n C (zd tX11_premium 24 rfl) rfl ?_
          refine gf_5_1 C gu7 zic_5 (zm zwd_116) (zd tX11_premium 25 rfl) ?_
          obtain ⟨rfl, rfl⟩ := zpi h
          exact ret.1 _ _ _ _ ⟨p3.1, (p3.1.1 _ _)⟩ rfl rfl rfl (zd tX11_premium 26 rfl)
        rw [if_neg c36_1] at h
        by_cases c36_2 : x2 = 2
        · rw [if_pos c36_2] at h
          refine z_tblIn (tgt := 78) C Rx2 c36_2 (zd tX11_premium 20 rfl) (by decide) (by decide) rfl (by decide) ?_
          refine z_aload_n C (zd tX11_premium 27 rfl) rfl ?_
          refine gf_5_2 C gu7 zic_5 (zm zwd_120) (zd tX11_premium 28 rfl) ?_
          refine z_if_eq (tgt := 89) C (p3.1.1 _ _) (zd tX11_premium 29 rfl) (by decide) h (fun h => ?_) (fun h => ?_)
          · refine z_iconst C (zd tX11_premium 32 rfl) ?_
            obtain ⟨rfl, rfl⟩ := zpi h
            exact ret.1 _ _ _ _ ⟨p3.1, (zR_c 0 rfl)⟩ rfl rfl rfl (zd tX11_premium 33 rfl)
          · refine z_iconst C (zd tX11_premium 30 rfl) ?_
            refine z_goto (tgt := 90) C (zd tX11_premium 31 rfl) (by decide) ?_
            obtain ⟨rfl, rfl⟩ := zpi h
            exact ret.1 _ _ _ _ ⟨p3.1, (zR_c 1 rfl)⟩ rfl rfl rfl (zd tX11_premium 33 rfl)
        rw [if_neg c36_2] at h
        by_cases c36_3 : x2 = 3
        · rw [if_pos c36_3] at h
          refine z_tblIn (tgt := 91) C Rx2 c36_3 (zd tX11_premium 20 rfl) (by decide) (by decide) rfl (by decide) ?_
          refine z_aload_n C (zd tX11_premium 34 rfl) rfl ?_
          refine gf_5_3 C gu7 zic_5 (zm zwd_123) (zd tX11_premium 35 rfl) ?_
          obtain ⟨rfl, rfl⟩ := zpi h
          exact ret.1 _ _ _ _ ⟨p3.1, (p3.1.1 _ _)⟩ rfl rfl rfl (zd tX11_premium 36 rfl)
        rw [if_neg c36_3] at h
        refine z_tblOut (tgt := 96) C Rx2 (by omega) (zd tX11_premium 20 rfl) (by decide) ?_
        refine z_aload_n C (zd tX11_premium 37 rfl) rfl ?_
        refine gf_5_4 C gu7 zic_5 (zm zwd_127) (zd tX11_premium 38 rfl) ?_
        obtain ⟨rfl, rfl⟩ := zpi h
        exact ret.1 _ _ _ _ ⟨p3.1, (p3.1.1 _ _)⟩ rfl rfl rfl (zd tX11_premium 39 rfl)
      · cases h
def eX11_premium (v : zHp) (x1 : Int) (x2 : Int) : Option (zHp × Int) := zcl (fX11_isPremium v x1) fun v1 r2 => if r2 = 0 then (some (v1, 0)) else (if x2 < 0 then (some (v1, 0)) else (if x2 ≤ 4 then (none) else (some (v1, 0))))
abbrev rtX11_premium : Room := { frames := 6, cells := 1, slots := 6, locals := 81 }
set_option maxRecDepth 100000 in
set_option maxHeartbeats 4000000 in
theorem xX11_premium (l : Launch) (D : va_G) (ids : Nat → ClassId) (b : Nat) {x1 : Int} (Rx1 : zR x1) {x2 : Int} (Rx2 : zR x2) {v v' : zHp} {r' : Int} (hst : l.stackTraces = false) (hv : zV 0 137 v) (h : eX11_premium v x1 x2 = some (v', r')) : zCTX l yX11_premium vsX11_premium rtX11_premium D ids b 0 137 [zr 0, zi x1, zi x2] v (zV 0 137 v') v' 1 6 := by
  refine zMetX (c0 := .tt) hst (by decide +kernel) (show vsX11_premium = _ from rfl) (Nat.le_of_ble_eq_true rfl) rfl ⟨by decide, by decide, by decide, by decide⟩ ?_
  intro E hl hRm hD hids hb ho hz hN C ret
  subst hl hD hids hb
  unfold eX11_premium at h
  refine z_aload_n C (zd tX11_premium 0 rfl) rfl ?_
  refine z_iload_n C (zd tX11_premium 1 rfl) rfl ?_
  obtain ⟨v1, r2, cv1, h⟩ := zcl_some h
  refine zc_V C ho hz hRm (qX11_isPremium _ _ _ _ Rx1 hv cv1) (lg_0 ho) (by decide) rfl (zgV zwd_822 zwd_824 zws_26 zwd_1 zwd_825) rfl pX11_isPremium rfl ⟨rfl, rfl⟩ ⟨Nat.le_of_ble_eq_true rfl, Nat.le_of_ble_eq_true rfl⟩ [] rfl (Nat.le_of_ble_eq_true rfl) (zd tX11_premium 2 rfl) [zi r2] rfl (fun p3 => ?_)
  refine z_if_eq (tgt := 17) C p3.2 (zd tX11_premium 3 rfl) (by decide) h (fun h => ?_) (fun h => ?_)
  · obtain ⟨rfl, -⟩ := zpi h
    exact ret _ _ (zd tX11_premium 9 rfl) (zd tX11_premium 10 rfl) (zd tX11_premium 11 rfl) (zd tX11_premium 12 rfl) p3.1
  · refine z_iload_n C (zd tX11_premium 4 rfl) rfl ?_
    refine z_if_lt (tgt := 17) C Rx2 (zd tX11_premium 5 rfl) (by decide) h (fun h => ?_) (fun h => ?_)
    · obtain ⟨rfl, -⟩ := zpi h
      exact ret _ _ (zd tX11_premium 9 rfl) (zd tX11_premium 10 rfl) (zd tX11_premium 11 rfl) (zd tX11_premium 12 rfl) p3.1
    · refine z_iload_n C (zd tX11_premium 6 rfl) rfl ?_
      refine z_iconst C (zd tX11_premium 7 rfl) ?_
      refine z_icmp_le (tgt := 25) C Rx2 (zR_c 4 rfl) (zd tX11_premium 8 rfl) (by decide) h (fun h => ?_) (fun h => ?_)
      · cases h
      · obtain ⟨rfl, -⟩ := zpi h
        exact ret _ _ (zd tX11_premium 9 rfl) (zd tX11_premium 10 rfl) (zd tX11_premium 11 rfl) (zd tX11_premium 12 rfl) p3.1
def fX11_quarter (v : zHp) (x1 : Int) (x2 : Int) (x3 : Int) : Option (zHp × Int) := zcl (fX11_isWorker v x1) fun v1 r2 => if r2 = 0 then (none) else (if x3 < 0 then (none) else (if x3 ≤ 4 then (zcl (fX11_sheetOf v1 x1) fun v4 r5 => zb (r5).toNat fun u7 => if x2 < 0 then (some (v4, (-2))) else (zb (v4 0 2).toNat fun u8 => zck (0 ≤ v4 0 2 ∧ zK u8 = (7, 10)) <| zcl (fX2_quartersAhead v4 (u8 + 1) 28) fun v10 r11 => if r11 ≤ x2 then (some (v10, (-2))) else (zck (0 ≤ x2 ∧ x2 < 2692) <| if v10 (u7 + 5) x2 ≠ (-2) then (if x3 = 0 then (zb (v10 0 2).toNat fun u14 => zck (0 ≤ v10 0 2 ∧ zK u14 = (7, 10)) <| zn (x2 * 15) fun t16 => zcl (fX2_toldAt v10 (u14 + 1) t16) fun v17 r18 => some (v17, Int.tdiv r18 1440)) else (if x3 = 1 then (zb (v10 0 2).toNat fun u20 => zck (0 ≤ v10 0 2 ∧ zK u20 = (7, 10)) <| zn (x2 * 15) fun t22 => zcl (fX2_hourAt v10 (u20 + 1) t22) fun v23 r24 => some (v23, r24)) else (if x3 = 2 then (zck (0 ≤ x2 ∧ x2 < 2692) <| some (v10, v10 (u7 + 5) x2)) else (if x3 = 3 then (zck (0 ≤ x2 ∧ x2 < 2692) <| some (v10, v10 (u7 + 6) x2)) else (zck (0 ≤ x2 ∧ x2 < 2692) <| some (v10, v10 (u7 + 7) x2)))))) else (some (v10, (-2)))))) else (none)))
noncomputable def vsX11_quarter : List Cond := .code yX11_quarter cX11_quarter 5 (some .int) :: zbig
abbrev rmX11_quarter : Room := { frames := 7, cells := 0, slots := 0, locals := 186 }
theorem pX11_quarter : yX11_quarter.cls = RX11 ∧ yX11_quarter.cls ≠ "java/lang/invoke/MethodHandle" ∧ yX11_quarter.cls ≠ "java/lang/invoke/VarHandle" ∧ (parseMethodDescriptor yX11_quarter.desc).map (fun d => d.parameters.length) = some 3 := by decide +kernel
set_option maxRecDepth 100000 in
set_option maxHeartbeats 4000000 in
theorem qX11_quarter (l : Launch) (D : va_G) (ids : Nat → ClassId) (b : Nat) {x1 : Int} (Rx1 : zR x1) {x2 : Int} (Rx2 : zR x2) {x3 : Int} (Rx3 : zR x3) {v v' : zHp} {r' : Int} (hv : zV 0 137 v) (h : fX11_quarter v x1 x2 x3 = some (v', r')) : zCT l yX11_quarter vsX11_quarter rmX11_quarter D ids b 0 False 137 [zr 0, zi x1, zi x2, zi x3] v 137 (zV 0 137 v' ∧ zR r') (some (zi r')) v' 0 0 := by
  refine zMet (own := RX11) (by decide +kernel) (show vsX11_quarter = _ from rfl) (Nat.le_of_ble_eq_true rfl) rfl ?_
  intro E hl hRm hD hids hb ho hz hN C hname ret
  subst hl hD hids hb
  unfold fX11_quarter at h
  refine z_iload_n C (zd tX11_quarter 0 rfl) rfl ?_
  obtain ⟨v1, r2, cv1, h⟩ := zcl_some h
  refine zc_S C ho hz hRm (qX11_isWorker _ _ _ _ Rx1 hv cv1) (zgS zwd_633 zwd_634 zwd_1 zwd_635) rfl pX11_isWorker rfl ⟨rfl, rfl⟩ ⟨Nat.le_of_ble_eq_true rfl, Nat.le_of_ble_eq_true rfl⟩ [] rfl (Nat.le_of_ble_eq_true rfl) (zd tX11_quarter 1 rfl) [zi r2] rfl (fun p3 => ?_)
  refine z_if_eq (tgt := 16) C p3.2 (zd tX11_quarter 2 rfl) (by decide) h (fun h => ?_) (fun h => ?_)
  · cases h
  · refine z_iload_n C (zd tX11_quarter 3 rfl) rfl ?_
    refine z_if_lt (tgt := 16) C Rx3 (zd tX11_quarter 4 rfl) (by decide) h (fun h => ?_) (fun h => ?_)
    · cases h
    · refine z_iload_n C (zd tX11_quarter 5 rfl) rfl ?_
      refine z_iconst C (zd tX11_quarter 6 rfl) ?_
      refine z_icmp_le (tgt := 24) C Rx3 (zR_c 4 rfl) (zd tX11_quarter 7 rfl) (by decide) h (fun h => ?_) (fun h => ?_)
      · refine z_aload_n C (zd tX11_quarter 12 rfl) rfl ?_
        refine z_iload_n C (zd tX11_quarter 13 rfl) rfl ?_
        obtain ⟨v4, r5, cv4, h⟩ := zcl_some h
        refine zc_V C ho hz hRm (qX11_sheetOf _ _ _ _ Rx1 p3.1 cv4) (lg_0 ho) (by decide) rfl (zgV zwd_673 zwd_675 zws_12 zwd_1 zwd_676) rfl pX11_sheetOf rfl ⟨rfl, rfl⟩ ⟨Nat.le_of_ble_eq_true rfl, Nat.le_of_ble_eq_true rfl⟩ [] rfl (Nat.le_of_ble_eq_true rfl) (zd tX11_quarter 14 rfl) [zr (r5).toNat] rfl (fun p6 => ?_)
        obtain ⟨u7, eu7, h⟩ := zb_some h
        have gu7 := kg_8 ho (show zK u7 = _ by rw [eu7]; exact p6.2.2)
        refine z_r0 eu7.symm ?_
        refine z_astore C (zd tX11_quarter 15 rfl) (by rw [hN]; decide) ?_
        refine z_iload_n C (zd tX11_quarter 16 rfl) rfl ?_
        refine z_if_lt (tgt := 63) C Rx2 (zd tX11_quarter 17 rfl) (by decide) h (fun h => ?_) (fun h => ?_)
        · refine z_bipush C (by decide) (zd tX11_quarter 31 rfl) ?_
          obtain ⟨rfl, rfl⟩ := zpi h
          exact ret.1 _ _ _ _ ⟨p6.1, (zR_c (-2) rfl)⟩ rfl rfl rfl (zd tX11_quarter 32 rfl)
        · refine z_iload_n C (zd tX11_quarter 18 rfl) rfl ?_
          refine z_aload_n C (zd tX11_quarter 19 rfl) rfl ?_
          obtain ⟨u8, eu8, h⟩ := zb_some h
          obtain ⟨q9, h⟩ := zck_some h
          have gu8 := kg_7 ho q9.2
          refine gl_11_2 C (lg_0 ho) zic_11 (zm zwd_402) (zdyn q9.1 eu8) (zd tX11_quarter 20 rfl) ?_
          refine gl_7_0 C gu8 zic_7 (zm zwd_151) (vl_7_0 ho p6.1 gu8) (zd tX11_quarter 21 rfl) ?_
          refine z_bipush C (by decide) (zd tX11_quarter 22 rfl) ?_
          obtain ⟨v10, r11, cv10, h⟩ := zcl_some h
          refine zc_V C ho hz hRm (qX2_quartersAhead _ _ _ _ (lk_7_0 ho gu8).1 (zR_c 28 rfl) p6.1 cv10) (lk_7_0 ho gu8) (by decide) rfl (zgV zwd_826 zwd_694 zwd_695 zwd_5 zwd_696) rfl pX2_quartersAhead rfl ⟨rfl, rfl⟩ ⟨Nat.le_of_ble_eq_true rfl, Nat.le_of_ble_eq_true rfl⟩ [zi x2] rfl (Nat.le_of_ble_eq_true rfl) (zd tX11_quarter 23 rfl) [zi r11, zi x2] rfl (fun p12 => ?_)
          refine z_icmp_ge (tgt := 63) C Rx2 p12.2 (zd tX11_quarter 24 rfl) (by decide) h (fun h => ?_) (fun h => ?_)
          · refine z_bipush C (by decide) (zd tX11_quarter 31 rfl) ?_
            obtain ⟨rfl, rfl⟩ := zpi h
            exact ret.1 _ _ _ _ ⟨p12.1, (zR_c (-2) rfl)⟩ rfl rfl rfl (zd tX11_quarter 32 rfl)
          · refine z_aload C (zd tX11_quarter 25 rfl) rfl ?_
            refine gl_8_6 C gu7 zic_8 (zm zwd_269) (vl_8_6 ho p12.1 gu7) (zd tX11_quarter 26 rfl) ?_
            refine z_iload_n C (zd tX11_quarter 27 rfl) rfl ?_
            obtain ⟨q13, h⟩ := zck_some h
            refine za_iald C (lk_8_6 ho gu7) rfl (by decide) q13 (zd tX11_quarter 28 rfl) ?_
            refine z_bipush C (by decide) (zd tX11_quarter 29 rfl) ?_
            refine z_icmp_ne (tgt := 66) C (p12.1.1 _ _) (zR_c (-2) rfl) (zd tX11_quarter 30 rfl) (by decide) h (fun h => ?_) (fun h => ?_)
            · refine z_iload_n C (zd tX11_quarter 33 rfl) rfl ?_
              by_cases c67_0 : x3 = 0
              · rw [if_pos c67_0] at h
                refine z_tblIn (tgt := 96) C Rx3 c67_0 (zd tX11_quarter 34 rfl) (by decide) (by decide) rfl (by decide) ?_
                refine z_aload_n C (zd tX11_quarter 35 rfl) rfl ?_
                obtain ⟨u14, eu14, h⟩ := zb_some h
                obtain ⟨q15, h⟩ := zck_some h
                have gu14 := kg_7 ho q15.2
                refine gl_11_2 C (lg_0 ho) zic_11 (zm zwd_402) (zdyn q15.1 eu14) (zd tX11_quarter 36 rfl) ?_
                refine gl_7_0 C gu14 zic_7 (zm zwd_151) (vl_7_0 ho p12.1 gu14) (zd tX11_quarter 37 rfl) ?_
                refine z_iload_n C (zd tX11_quarter 38 rfl) rfl ?_
                refine z_bipush C (by decide) (zd tX11_quarter 39 rfl) ?_
                refine z_imul C (zd tX11_quarter 40 rfl) ?_
                obtain ⟨t16, et16, Rt16, h⟩ := zn_some h
                refine z_nk 0 (congrArg zI et16.symm) rfl ?_
                obtain ⟨v17, r18, cv17, h⟩ := zcl_some h
                refine zc_V C ho hz hRm (qX2_toldAt _ _ _ _ (lk_7_0 ho gu14).1 Rt16 p12.1 cv17) (lk_7_0 ho gu14) (by decide) rfl (zgV zwd_617 zwd_618 zwd_619 zwd_5 zwd_620) rfl pX2_toldAt rfl ⟨rfl, rfl⟩ ⟨Nat.le_of_ble_eq_true rfl, Nat.le_of_ble_eq_true rfl⟩ [] rfl (Nat.le_of_ble_eq_true rfl) (zd tX11_quarter 41 rfl) [zi r18] rfl (fun p19 => ?_)
                refine z_sipush C (by decide) (zd tX11_quarter 42 rfl) ?_
                refine z_idiv C p19.2 (by decide) (zR_c 1440 rfl) (zd tX11_quarter 43 rfl) ?_
                obtain ⟨rfl, rfl⟩ := zpi h
                exact ret.1 _ _ _ _ ⟨p19.1, (zR_div p19.2 (by decide))⟩ rfl rfl rfl (zd tX11_quarter 44 rfl)
              rw [if_neg c67_0] at h
              by_cases c67_1 : x3 = 1
              · rw [if_pos c67_1] at h
                refine z_tblIn (tgt := 115) C Rx3 c67_1 (zd tX11_quarter 34 rfl) (by decide) (by decide) rfl (by decide) ?_
                refine z_aload_n C (zd tX11_quarter 45 rfl) rfl ?_
                obtain ⟨u20, eu20, h⟩ := zb_some h
                obtain ⟨q21, h⟩ := zck_some h
                have gu20 := kg_7 ho q21.2
                refine gl_11_2 C (lg_0 ho) zic_11 (zm zwd_402) (zdyn q21.1 eu20) (zd tX11_quarter 46 rfl) ?_
                refine gl_7_0 C gu20 zic_7 (zm zwd_151) (vl_7_0 ho p12.1 gu20) (zd tX11_quarter 47 rfl) ?_
                refine z_iload_n C (zd tX11_quarter 48 rfl) rfl ?_
                refine z_bipush C (by decide) (zd tX11_quarter 49 rfl) ?_
                refine z_imul C (zd tX11_quarter 50 rfl) ?_
                obtain ⟨t22, et22, Rt22, h⟩ := zn_some h
                refine z_nk 0 (congrArg zI et22.symm) rfl ?_
                obtain ⟨v23, r24, cv23, h⟩ := zcl_some h
                refine zc_V C ho hz hRm (qX2_hourAt _ _ _ _ (lk_7_0 ho gu20).1 Rt22 p12.1 cv23) (lk_7_0 ho gu20) (by decide) rfl (zgV zwd_962 zwd_736 zwd_737 zwd_5 zwd_738) rfl pX2_hourAt rfl ⟨rfl, rfl⟩ ⟨Nat.le_of_ble_eq_true rfl, Nat.le_of_ble_eq_true rfl⟩ [] rfl (Nat.le_of_ble_eq_true rfl) (zd tX11_quarter 51 rfl) [zi r24] rfl (fun p25 => ?_)
                obtain ⟨rfl, rfl⟩ := zpi h
                exact ret.1 _ _ _ _ ⟨p25.1, p25.2⟩ rfl rfl rfl (zd tX11_quarter 52 rfl)
              rw [if_neg c67_1] at h
              by_cases c67_2 : x3 = 2
              · rw [if_pos c67_2] at h
                refine z_tblIn (tgt := 130) C Rx3 c67_2 (zd tX11_quarter 34 rfl) (by decide) (by decide) rfl (by decide) ?_
                refine z_aload C (zd tX11_quarter 53 rfl) rfl ?_
                refine gl_8_6 C gu7 zic_8 (zm zwd_269) (vl_8_6 ho p12.1 gu7) (zd tX11_quarter 54 rfl) ?_
                refine z_iload_n C (zd tX11_quarter 55 rfl) rfl ?_
                obtain ⟨q26, h⟩ := zck_some h
                refine za_iald C (lk_8_6 ho gu7) rfl (by decide) q26 (zd tX11_quarter 56 rfl) ?_
                obtain ⟨rfl, rfl⟩ := zpi h
                exact ret.1 _ _ _ _ ⟨p12.1, (p12.1.1 _ _)⟩ rfl rfl rfl (zd tX11_quarter 57 rfl)
              rw [if_neg c67_2] at h
              by_cases c67_3 : x3 = 3
              · rw [if_pos c67_3] at h
                refine z_tblIn (tgt := 138) C Rx3 c67_3 (zd tX11_quarter 34 rfl) (by decide) (by decide) rfl (by decide) ?_
                refine z_aload C (zd tX11_quarter 58 rfl) rfl ?_
                refine gl_8_7 C gu7 zic_8 (zm zwd_271) (vl_8_7 ho p12.1 gu7) (zd tX11_quarter 59 rfl) ?_
                refine z_iload_n C (zd tX11_quarter 60 rfl) rfl ?_
                obtain ⟨q27, h⟩ := zck_some h
                refine za_iald C (lk_8_7 ho gu7) rfl (by decide) q27 (zd tX11_quarter 61 rfl) ?_
                obtain ⟨rfl, rfl⟩ := zpi h
                exact ret.1 _ _ _ _ ⟨p12.1, (p12.1.1 _ _)⟩ rfl rfl rfl (zd tX11_quarter 62 rfl)
              rw [if_neg c67_3] at h
              refine z_tblOut (tgt := 146) C Rx3 (by omega) (zd tX11_quarter 34 rfl) (by decide) ?_
              refine z_aload C (zd tX11_quarter 63 rfl) rfl ?_
              refine gl_8_8 C gu7 zic_8 (zm zwd_273) (vl_8_8 ho p12.1 gu7) (zd tX11_quarter 64 rfl) ?_
              refine z_iload_n C (zd tX11_quarter 65 rfl) rfl ?_
              obtain ⟨q28, h⟩ := zck_some h
              refine za_iald C (lk_8_8 ho gu7) rfl (by decide) q28 (zd tX11_quarter 66 rfl) ?_
              obtain ⟨rfl, rfl⟩ := zpi h
              exact ret.1 _ _ _ _ ⟨p12.1, (p12.1.1 _ _)⟩ rfl rfl rfl (zd tX11_quarter 67 rfl)
            · refine z_bipush C (by decide) (zd tX11_quarter 31 rfl) ?_
              obtain ⟨rfl, rfl⟩ := zpi h
              exact ret.1 _ _ _ _ ⟨p12.1, (zR_c (-2) rfl)⟩ rfl rfl rfl (zd tX11_quarter 32 rfl)
      · cases h
def eX11_quarter (v : zHp) (x1 : Int) (x2 : Int) (x3 : Int) : Option (zHp × Int) := zcl (fX11_isWorker v x1) fun v1 r2 => if r2 = 0 then (some (v1, 0)) else (if x3 < 0 then (some (v1, 0)) else (if x3 ≤ 4 then (none) else (some (v1, 0))))
abbrev rtX11_quarter : Room := { frames := 6, cells := 1, slots := 6, locals := 81 }
set_option maxRecDepth 100000 in
set_option maxHeartbeats 4000000 in
theorem xX11_quarter (l : Launch) (D : va_G) (ids : Nat → ClassId) (b : Nat) {x1 : Int} (Rx1 : zR x1) {x2 : Int} (Rx2 : zR x2) {x3 : Int} (Rx3 : zR x3) {v v' : zHp} {r' : Int} (hst : l.stackTraces = false) (hv : zV 0 137 v) (h : eX11_quarter v x1 x2 x3 = some (v', r')) : zCTX l yX11_quarter vsX11_quarter rtX11_quarter D ids b 0 137 [zr 0, zi x1, zi x2, zi x3] v (zV 0 137 v') v' 1 6 := by
  refine zMetX (c0 := .tt) hst (by decide +kernel) (show vsX11_quarter = _ from rfl) (Nat.le_of_ble_eq_true rfl) rfl ⟨by decide, by decide, by decide, by decide⟩ ?_
  intro E hl hRm hD hids hb ho hz hN C ret
  subst hl hD hids hb
  unfold eX11_quarter at h
  refine z_iload_n C (zd tX11_quarter 0 rfl) rfl ?_
  obtain ⟨v1, r2, cv1, h⟩ := zcl_some h
  refine zc_S C ho hz hRm (qX11_isWorker _ _ _ _ Rx1 hv cv1) (zgS zwd_633 zwd_634 zwd_1 zwd_635) rfl pX11_isWorker rfl ⟨rfl, rfl⟩ ⟨Nat.le_of_ble_eq_true rfl, Nat.le_of_ble_eq_true rfl⟩ [] rfl (Nat.le_of_ble_eq_true rfl) (zd tX11_quarter 1 rfl) [zi r2] rfl (fun p3 => ?_)
  refine z_if_eq (tgt := 16) C p3.2 (zd tX11_quarter 2 rfl) (by decide) h (fun h => ?_) (fun h => ?_)
  · obtain ⟨rfl, -⟩ := zpi h
    exact ret _ _ (zd tX11_quarter 8 rfl) (zd tX11_quarter 9 rfl) (zd tX11_quarter 10 rfl) (zd tX11_quarter 11 rfl) p3.1
  · refine z_iload_n C (zd tX11_quarter 3 rfl) rfl ?_
    refine z_if_lt (tgt := 16) C Rx3 (zd tX11_quarter 4 rfl) (by decide) h (fun h => ?_) (fun h => ?_)
    · obtain ⟨rfl, -⟩ := zpi h
      exact ret _ _ (zd tX11_quarter 8 rfl) (zd tX11_quarter 9 rfl) (zd tX11_quarter 10 rfl) (zd tX11_quarter 11 rfl) p3.1
    · refine z_iload_n C (zd tX11_quarter 5 rfl) rfl ?_
      refine z_iconst C (zd tX11_quarter 6 rfl) ?_
      refine z_icmp_le (tgt := 24) C Rx3 (zR_c 4 rfl) (zd tX11_quarter 7 rfl) (by decide) h (fun h => ?_) (fun h => ?_)
      · cases h
      · obtain ⟨rfl, -⟩ := zpi h
        exact ret _ _ (zd tX11_quarter 8 rfl) (zd tX11_quarter 9 rfl) (zd tX11_quarter 10 rfl) (zd tX11_quarter 11 rfl) p3.1
