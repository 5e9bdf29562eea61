/-! one round of the law's loop. By wip/whole/genlaw.py. -/
abbrev zLWr (idJ : ClassId) (qa : Nat) (gO : Nat → Int64) : va_W := zOut idJ qa gO
abbrev zLW (ids : Nat → ClassId) (idJ : ClassId) (b qa : Nat) (vC vM : zHp) (gO : Nat → Int64) : va_W := zwl ids b 0 137 vC ++ (zwl ids b 137 24 vM ++ zLWr idJ qa gO)
noncomputable abbrev zTL : List Cond := Cond.initialized "PremiumHoursLaw" :: zbig
/-- what the law's walk stands on -/
def zLC (E : zE) (idJ : ClassId) (qa sa N : Nat) (xs : Nat → Int32) (ad adV : Nat → Nat) : Prop := zC E 161 cL_law RL zTL ∧ va_K (zED E) vwCl (ztysL (zEi E) idJ) (zEs E) ∧ (zStr ad adV (zEA E) (zEs E) (zEH E)) ∧ zTw (zEA E) (zEs E) (zEH E) ∧ zER E = room_1 ∧ zEN E = 7 ∧ (zEl E).stackTraces = false ∧ (∀ q, zEb E ≤ q → (zEA E) q) ∧ zEb E + 161 ≤ qa ∧ (va_X sa N xs (zEs E) (zEH E) ∧ sa < (zEH E).size ∧ ¬ (zEA E) sa) ∧ N ≤ 3072
abbrev zlo (sa qa : Nat) (i : Int) : List (Option zAV) := [some (zs sa), some (zr 0), some (zr 137), some (zs qa), some (zi i), none, none]
theorem zLW_out {ids : Nat → ClassId} {idJ : ClassId} {b qa : Nat} {vC vM : zHp} {gO : Nat → Int64} : (zLW ids idJ b qa vC vM gO)[161]? = some (qa, .inl (idJ, 1, .inr (.inl gO))) := by
  rw [List.getElem?_append_right (by rw [zwl_len]; decide), zwl_len, List.getElem?_append_right (by rw [zwl_len]; decide), zwl_len]
  rfl
theorem zwl_mem {ids : Nat → ClassId} {b o n : Nat} {v : zHp} {q : Nat × va_E} (h : q ∈ zwl ids b o n v) : b + o ≤ q.1 ∧ q.1 < b + (o + n) := by
  unfold zwl at h
  obtain ⟨i, h1, h2⟩ := List.mem_map.mp h
  have := List.mem_range.mp h1
  rw [← h2]
  show b + o ≤ b + (o + i) ∧ b + (o + i) < b + (o + n)
  omega
theorem zLWr_mem {idJ : ClassId} {qa : Nat} {gO : Nat → Int64} {q : Nat × va_E} (h : q ∈ zLWr idJ qa gO) : q.1 = qa := by
  have : q = _ := List.mem_singleton.mp h
  rw [this]
theorem zAB_C {ids : Nat → ClassId} {idJ : ClassId} {b qa : Nat} {vM : zHp} {gO : Nat → Int64} (hqa : b + 161 ≤ qa) : ∀ q ∈ ([] : va_W) ++ (zwl ids b 137 24 vM ++ zLWr idJ qa gO), ¬ (b + 0 ≤ q.1 ∧ q.1 < b + (0 + 137)) := by
  intro q hq
  rw [List.nil_append] at hq
  rcases List.mem_append.mp hq with h | h
  · have := zwl_mem h
    omega
  · have := zLWr_mem h
    omega
theorem zAB_M {ids : Nat → ClassId} {idJ : ClassId} {b qa : Nat} {vC : zHp} {gO : Nat → Int64} (hqa : b + 161 ≤ qa) : ∀ q ∈ zwl ids b 0 137 vC ++ zLWr idJ qa gO, ¬ (b + 137 ≤ q.1 ∧ q.1 < b + (137 + 24)) := by
  intro q hq
  rcases List.mem_append.mp hq with h | h
  · have := zwl_mem h
    omega
  · have := zLWr_mem h
    omega
/-- 'script[i + j]' -/
def zar (xs : Nat → Int32) (i j : Int) : Int := (xs (i + j).toNat).toInt
theorem zar_R (xs : Nat → Int32) (i j : Int) : zR (zar xs i j) := zR_toInt _
def zbo (x : Int) : Int := if x = 0 then 0 else 1
theorem zbo_R (x : Int) : zR (zbo x) := by
  unfold zbo
  split
  · exact zR_c 0 rfl
  · exact zR_c 1 rfl
section ZLAW
variable {E : zE} {idJ : ClassId} {qa sa N : Nat} {ad adV : Nat → Nat} {xs : Nat → Int32} {vC vM : zHp} {gO : Nat → Int64} {k n pc : Nat} {lo : List (Option zAV)} {st : List zAV} {i : Int}
theorem w_sld (L : zLC E idJ qa sa N xs ad adV) {ws : va_W} (q : 0 ≤ i ∧ i < (N : Int)) (d : decode cL_law pc = .ok (.iaload, 1)) (kk : zY E k n ws (pc + 1) lo (zi (xs i.toNat).toInt :: st)) : zY E k n ws pc lo (zi i :: zs sa :: st) := by
  obtain ⟨C, hKL, hZs, hTw, hRm, hN, hsT, hcov, hqa, ⟨hX, hs1, hs2⟩, hNN⟩ := id L
  intro H locs ls hP hS hZ hl
  obtain ⟨hin, e, ei⟩ := zin q.1 q.2 (by omega)
  refine va_sld C.1 C.2.1 hX hs1 hs2 hS hin d ?_
  have := kk H locs ls hP hS hZ hl
  rw [List.map_cons] at this
  have e2 : zxv (zEb E) (zi (xs i.toNat).toInt) = .int (xs (zI i).toNatClampNeg) := by
    show Value.int (zI (xs i.toNat).toInt) = _
    rw [zI_toInt, e]
  rw [e2] at this
  exact this
theorem w_slen (L : zLC E idJ qa sa N xs ad adV) {ws : va_W} (d : decode cL_law pc = .ok (.arraylength, 1)) (kk : zY E k n ws (pc + 1) lo (zi (N : Int) :: st)) : zY E k n ws pc lo (zs sa :: st) := by
  obtain ⟨C, hKL, hZs, hTw, hRm, hN, hsT, hcov, hqa, ⟨hX, hs1, hs2⟩, hNN⟩ := id L
  intro H locs ls hP hS hZ hl
  refine va_slen C.1 C.2.1 hX hs1 hs2 hS d ?_
  have := kk H locs ls hP hS hZ hl
  rw [List.map_cons] at this
  have e2 : zxv (zEb E) (zi (N : Int)) = .int (Int32.ofNat N) := by
    show Value.int (zI (N : Int)) = _
    unfold zI
    rw [Int32.ofInt_eq_ofNat]
  rw [e2] at this
  exact this
theorem w_arg (L : zLC E idJ qa sa N xs ad adV) {j : Int} (q : 0 ≤ i + j ∧ i + j < (N : Int)) (h0 : lo[0]? = some (some (zs sa))) (h4 : lo[4]? = some (some (zi i))) (d0 : decode cL_law pc = .ok (.aload_n 0, 1)) (d1 : decode cL_law (pc + 1) = .ok (.iload 4, 2)) (d2 : decode cL_law (pc + 3) = .ok (.iconst j, 1)) (d3 : decode cL_law (pc + 4) = .ok (.iadd, 1)) (d4 : decode cL_law (pc + 5) = .ok (.iaload, 1))
    (kk : zY E k n (zLW (zEi E) idJ (zEb E) qa vC vM gO) (pc + 6) lo (zi (zar xs i j) :: st)) : zY E k n (zLW (zEi E) idJ (zEb E) qa vC vM gO) pc lo st := by
  have C := L.1
  refine w_aloadS_n C d0 h0 ?_
  refine w_iload C d1 h4 ?_
  refine w_iconst C d2 ?_
  refine w_iadd C d3 ?_
  exact w_sld L q d4 kk
/-- 'x != 0' as a value -/
theorem w_bool (L : zLC E idJ qa sa N xs ad adV) {ws : va_W} {x : Int} (hx : zR x) (d0 : decode cL_law pc = .ok (.ifCond .eq 7, 3)) (d1 : decode cL_law (pc + 3) = .ok (.iconst 1, 1)) (d2 : decode cL_law (pc + 4) = .ok (.goto 4, 3)) (d3 : decode cL_law (pc + 7) = .ok (.iconst 0, 1)) (kk : zY E k n ws (pc + 8) lo (zi (zbo x) :: st)) : zY E k n ws pc lo (zi x :: st) := by
  have C := L.1
  by_cases h : x = 0
  · refine w_if_eq (tgt := pc + 7) C hx d0 (by omega) (X := some ()) (Y := none) (res := ()) (by rw [if_pos h]) (fun _ => ?_) (fun e => by cases e)
    refine w_iconst C d3 ?_
    rw [show zbo x = 0 by unfold zbo; rw [if_pos h]] at kk
    exact kk
  · refine w_if_eq (tgt := pc + 7) C hx d0 (by omega) (X := none) (Y := some ()) (res := ()) (by rw [if_neg h]) (fun e => by cases e) (fun _ => ?_)
    refine w_iconst C d1 ?_
    refine w_goto (tgt := pc + 8) C d2 (by omega) ?_
    rw [show zbo x = 1 by unfold zbo; rw [if_neg h]] at kk
    exact kk
theorem w_ieq (C : zC E 161 cL_law RL zTL) {ws : va_W} {x : Int} {off : Int} {tgt : Nat} (hx : zR x) (d : decode cL_law pc = .ok (.if_icmp .eq off, 3)) (ht : (pc : Int) + off = (tgt : Int)) (kk : zY E k n ws tgt lo st) : zY E k n ws pc lo (zi x :: zi x :: st) :=
  w_icmp_eq (tgt := tgt) C hx hx d ht (X := some ()) (Y := none) (res := ()) (by rw [if_pos rfl]) (fun _ => kk) (fun e => by cases e)
/-- a call of one that catches -/
theorem w_callL (L : zLC E idJ qa sa N xs ad adV) {y : MethodName} {wsy ws' : List Cond} {rm : Room} {idx nA maxL mc ms k' n' : Nat} {bytes : ByteArray} {hh : List (Nat × Nat × Nat × Nat)} {As : List zAV} {v1 : zHp} {g1 : Nat → Int64} {r : Int} {stk : List zAV}
    (M : zCTL (zEl E) y wsy rm (zED E) (zEi E) idJ (zEb E) qa As vC gO r v1 g1 mc ms) (hG : GoodIn zTL (va_wsS RL idx y wsy)) (hw : wsy = .codeWith y bytes maxL (some .int) hh :: ws')
    (hd : y.cls ≠ "java/lang/invoke/MethodHandle" ∧ y.cls ≠ "java/lang/invoke/VarHandle" ∧ (parseMethodDescriptor y.desc).map (fun d => d.parameters.length) = some nA) (hn : As.length = nA) (hR0 : rm.cells = mc ∧ rm.slots = ms) (hR : rm.frames + 1 ≤ room_1.frames ∧ 8 + (maxL + 11) + rm.locals ≤ room_1.locals) (hKn : k + mc = k' ∧ n + ms = n') (hF : k' ≤ room_1.cells ∧ n' ≤ room_1.slots) (st : List zAV) (hst : stk = As.reverse ++ st) (hl8 : st.length ≤ 8) (d : decode cL_law pc = .ok (.invokestatic idx, 3))
    (kk : zV 0 137 v1 → zY E k' n' (zLW (zEi E) idJ (zEb E) qa v1 vM g1) (pc + 3) lo (zi r :: st)) : zY E k n (zLW (zEi E) idJ (zEb E) qa vC vM gO) pc lo stk := by
  obtain ⟨C, hKL, hZs, hTw, hRm, hN, hsT, hcov, hqa, hX, hNN⟩ := id L
  subst hst
  obtain ⟨rfl, rfl⟩ := hKn
  rw [← hRm] at hR hF
  intro H locs ls hP hS hZ hl
  obtain ⟨hx1, hb, hown, hts, hK, hlocks, hml, hA, hAn⟩ := id C
  have hcat := w_cat (b := zEb E) hl8
  have hmap : (As.reverse ++ st).map (zxv (zEb E)) = (As.map (zxv (zEb E))).reverse ++ st.map (zxv (zEb E)) := by simp
  rw [hmap]
  have hqat := hP 161 _ zLW_out
  have hqs : qa < H.size := hqat.lt
  have hqb : ¬ (zEb E ≤ qa ∧ qa < zEb E + 137) := by omega
  have hsub : va_P (zED E) vwCl (zwl (zEi E) (zEb E) 0 137 vC ++ zOut idJ qa gO) H := by
    refine va_P.app (wP_Z (A := []) hP) fun j x hx => ?_
    have h9 : x = _ := List.mem_singleton.mp (List.mem_of_getElem? hx)
    rw [h9]
    exact hqat
  have hbH : zEb E ≤ H.size := by omega
  have hAA : ∀ q, zAL (zEb E) qa H.size q → (zEA E) q := by
    intro q hq
    rcases hq with (⟨h1, h2⟩ | h1) | h1
    · exact hcov q (by omega)
    · exact hcov q (by omega)
    · exact hcov q (by omega)
  have hr := vx_runSX (p := zEp E) (l := zEl E) (e := zEe E) (R := zER E) (below := zEbe E) (meth := zEme E) (locs := locs) (cells := k) (slots := n) (hh := hh) (g := F0 (zEm E) pc ls ((As.map (zxv (zEb E))).reverse ++ st.map (zxv (zEb E)))) ⟨hx1, hb, hml, hown, hts⟩ (M H.size hqs hqb) (vx_cwSW nA hts hG hw hR0.1 hR0.2 hd hR) ⟨zPreL_blind, fun U hU hW => ⟨rfl, by rw [hU], ⟨by rw [hU]; exact hsub, va_K.moved hW.alike hKL⟩, by rw [hU]; exact ((hTw.kept hS.2.1).narrow hAA).warm hW⟩⟩ rfl (by simpa using hn) hl.1 rfl (lv_room hcat) d hF
  intro T hT X
  rcases hr T hT X with ⟨v', st₀, t, T', L9, h0, X', hL, e1, e2, ⟨⟨hv1, hv, hws⟩, hFr⟩, stp⟩ | ⟨q, st₀, t, T', L9, EN, ce, h0, X', hL, e1, e2, hno, -⟩
  · cases hv
    obtain ⟨hzz, hkk⟩ := hFr
    rw [h0] at hzz hkk
    have hS1 : va_S (zEA E) (zEH E) T'.heap (locs ++ L9) := ⟨Nat.le_trans hS.1 (by rw [e1]; exact hzz), fun q h1 h2 => by rw [e1, hkk q (Nat.lt_of_lt_of_le h1 hS.1) (fun z => h2 (hAA q z))]; exact hS.2.1 q h1 h2, fun q hq => by
        rcases List.mem_append.mp hq with h | h
        · exact hS.2.2 q h
        · exact hAA _ (hL q h)⟩
    have hP1 : va_P (zED E) vwCl (zLW (zEi E) idJ (zEb E) qa v1 vM g1) T'.heap := by
      rw [e1]
      have hkeep : ∀ (q : Nat × va_E), va_at (zED E) vwCl q H → ¬ (zEb E ≤ q.1 ∧ q.1 < zEb E + 137) → q.1 ≠ qa → va_at (zED E) vwCl q t.heap := fun q h1 h2 h3 => h1.kept (hkk q.1 h1.lt (fun hz => by
        rcases hz with (⟨g1, g2⟩ | g1) | g1
        · exact h2 ⟨by omega, by omega⟩
        · have := h1.lt
          omega
        · exact h3 g1))
      have hP2 : va_P (zED E) vwCl (zwl (zEi E) (zEb E) 137 24 vM ++ zLWr idJ qa gO) H := wP_B (A := []) (Z := zwl (zEi E) (zEb E) 0 137 vC) hP
      have hP3 : va_P (zED E) vwCl (zwl (zEi E) (zEb E) 137 24 vM) H := wP_Z (A := []) (B := zLWr idJ qa gO) hP2
      refine va_P.app (wP_Z (A := []) (B := zOut idJ qa g1) hws) (va_P.app (fun j x hx => ?_) (wP_B (A := []) (Z := zwl (zEi E) (zEb E) 0 137 v1) hws))
      have hm := zwl_mem (List.mem_of_getElem? hx)
      exact hkeep x (hP3 j x hx) (by omega) (by omega)
    obtain ⟨t2, a1, b1⟩ := kk hv1 T'.heap (locs ++ L9) ls hP1 hS1 hZ hl T' rfl X'
    exact ⟨t2, stp t2 a1, b1⟩
  · exact hno.elim
def zS_0 (xs : Nat → Int32) (i : Int) (vC vM vC' vM' : zHp) : Prop := ∃ r, fX11_feed vC (zar xs i 1) (zar xs i 2) (zar xs i 3) (zar xs i 4) (zar xs i 5) = some (vC', r) ∧ fX12_feed vM (zar xs i 1) (zar xs i 2) (zar xs i 3) (zar xs i 4) (zar xs i 5) = some (vM', r)
set_option maxRecDepth 100000 in
set_option maxHeartbeats 4000000 in
theorem s_0 (L : zLC E idJ qa sa N xs ad adV) (hi : 0 ≤ i ∧ i + 5 < (N : Int)) {vC' vM' : zHp} (hvC : zV 0 137 vC) (hvM : zV 137 24 vM) (h : zS_0 xs i vC vM vC' vM') (hk : k + 260 ≤ 601024 ∧ n + 2080 ≤ 7293034) (kk : zV 0 137 vC' → zV 137 24 vM' → ∀ gO, zY E (k + 260) (n + 2080) (zLW (zEi E) idJ (zEb E) qa vC' vM' gO) 1272 (zlo sa qa i) []) : zY E k n (zLW (zEi E) idJ (zEb E) qa vC vM gO) 144 (zlo sa qa i) [] := by
  obtain ⟨C, hKL, hZs, hTw, hRm, hN, hsT, hcov, hqa, hX, hNN⟩ := id L
  obtain ⟨r, h1, h2⟩ := h
  refine w_aload_n C (zd tL_law0 25 rfl) rfl ?_
  refine w_arg L ⟨by omega, by omega⟩ rfl rfl (zd tL_law0 26 rfl) (zd tL_law0 27 rfl) (zd tL_law0 28 rfl) (zd tL_law0 29 rfl) (zd tL_law0 30 rfl) ?_
  refine w_arg L ⟨by omega, by omega⟩ rfl rfl (zd tL_law0 31 rfl) (zd tL_law0 32 rfl) (zd tL_law0 33 rfl) (zd tL_law0 34 rfl) (zd tL_law0 35 rfl) ?_
  refine w_arg L ⟨by omega, by omega⟩ rfl rfl (zd tL_law0 36 rfl) (zd tL_law0 37 rfl) (zd tL_law0 38 rfl) (zd tL_law0 39 rfl) (zd tL_law1 0 rfl) ?_
  refine w_arg L ⟨by omega, by omega⟩ rfl rfl (zd tL_law1 1 rfl) (zd tL_law1 2 rfl) (zd tL_law1 3 rfl) (zd tL_law1 4 rfl) (zd tL_law1 5 rfl) ?_
  refine w_arg L ⟨by omega, by omega⟩ rfl rfl (zd tL_law1 6 rfl) (zd tL_law1 7 rfl) (zd tL_law1 8 rfl) (zd tL_law1 9 rfl) (zd tL_law1 10 rfl) ?_
  refine w_callV C (o := 0) (nw := 137)  hRm (A := []) (zAB_C hqa) (fun j _ => hcov _ (by omega)) (qX11_feed _ _ _ _ (zar_R _ _ _) (zar_R _ _ _) (zar_R _ _ _) (zar_R _ _ _) (zar_R _ _ _) hvC h1) rfl (Nat.zero_le 0) (by decide) (by decide) rfl (zgV zwd_431 zwd_432 zwd_433 zwd_1 zwd_434) rfl pX11_feed rfl ⟨rfl, rfl⟩ ⟨Nat.le_of_ble_eq_true rfl, Nat.le_of_ble_eq_true rfl⟩ (k' := k) (n' := n) ⟨rfl, rfl⟩ ⟨by show _ ≤ 601024; omega, by show _ ≤ 7293034; omega⟩ [] rfl (Nat.le_of_ble_eq_true rfl) (zd tL_law1 11 rfl) [zi r] rfl (fun p11 => ?_)
  refine w_aload_n C (zd tL_law1 12 rfl) rfl ?_
  refine w_arg L ⟨by omega, by omega⟩ rfl rfl (zd tL_law1 13 rfl) (zd tL_law1 14 rfl) (zd tL_law1 15 rfl) (zd tL_law1 16 rfl) (zd tL_law1 17 rfl) ?_
  refine w_arg L ⟨by omega, by omega⟩ rfl rfl (zd tL_law1 18 rfl) (zd tL_law1 19 rfl) (zd tL_law1 20 rfl) (zd tL_law1 21 rfl) (zd tL_law1 22 rfl) ?_
  refine w_arg L ⟨by omega, by omega⟩ rfl rfl (zd tL_law1 23 rfl) (zd tL_law1 24 rfl) (zd tL_law1 25 rfl) (zd tL_law1 26 rfl) (zd tL_law1 27 rfl) ?_
  refine w_arg L ⟨by omega, by omega⟩ rfl rfl (zd tL_law1 28 rfl) (zd tL_law1 29 rfl) (zd tL_law1 30 rfl) (zd tL_law1 31 rfl) (zd tL_law1 32 rfl) ?_
  refine w_arg L ⟨by omega, by omega⟩ rfl rfl (zd tL_law1 33 rfl) (zd tL_law1 34 rfl) (zd tL_law1 35 rfl) (zd tL_law1 36 rfl) (zd tL_law1 37 rfl) ?_
  refine w_callV C (o := 137) (nw := 24)  hRm (A := zwl (zEi E) (zEb E) 0 137 vC') (zAB_M hqa) (fun j _ => hcov _ (by omega)) (qX12_feed _ _ _ _ (zar_R _ _ _) (zar_R _ _ _) (zar_R _ _ _) (zar_R _ _ _) (zar_R _ _ _) hvM h2) rfl (Nat.le_refl 137) (by decide) (by decide) rfl (zgV zwd_967 zwd_968 zwd_969 zwd_13 zwd_970) rfl pX12_feed rfl ⟨rfl, rfl⟩ ⟨Nat.le_of_ble_eq_true rfl, Nat.le_of_ble_eq_true rfl⟩ (k' := k) (n' := n) ⟨rfl, rfl⟩ ⟨by show _ ≤ 601024; omega, by show _ ≤ 7293034; omega⟩ [zi r] rfl (Nat.le_of_ble_eq_true rfl) (zd tL_law1 38 rfl) [zi r, zi r] rfl (fun p12 => ?_)
  refine w_ieq (tgt := 1272) C p11.2 (zd tL_law1 39 rfl) (by decide) ?_
  exact w_widen (by omega) (by omega) (kk p11.1 p12.1 _)
def zS_1 (xs : Nat → Int32) (i : Int) (vC vM vC' vM' : zHp) : Prop := ∃ r, fX11_rules vC (zar xs i 1) = some (vC', r) ∧ fX12_rules vM (zar xs i 1) = some (vM', r)
set_option maxRecDepth 100000 in
set_option maxHeartbeats 4000000 in
theorem s_1 (L : zLC E idJ qa sa N xs ad adV) (hi : 0 ≤ i ∧ i + 5 < (N : Int)) {vC' vM' : zHp} (hvC : zV 0 137 vC) (hvM : zV 137 24 vM) (h : zS_1 xs i vC vM vC' vM') (hk : k + 260 ≤ 601024 ∧ n + 2080 ≤ 7293034) (kk : zV 0 137 vC' → zV 137 24 vM' → ∀ gO, zY E (k + 260) (n + 2080) (zLW (zEi E) idJ (zEb E) qa vC' vM' gO) 1272 (zlo sa qa i) []) : zY E k n (zLW (zEi E) idJ (zEb E) qa vC vM gO) 217 (zlo sa qa i) [] := by
  obtain ⟨C, hKL, hZs, hTw, hRm, hN, hsT, hcov, hqa, hX, hNN⟩ := id L
  obtain ⟨r, h1, h2⟩ := h
  refine w_aload_n C (zd tL_law2 2 rfl) rfl ?_
  refine w_arg L ⟨by omega, by omega⟩ rfl rfl (zd tL_law2 3 rfl) (zd tL_law2 4 rfl) (zd tL_law2 5 rfl) (zd tL_law2 6 rfl) (zd tL_law2 7 rfl) ?_
  refine w_callVS C (o := 0) (nw := 137) hZs hRm (A := []) (zAB_C hqa) (fun j _ => hcov _ (by omega)) (qX11_rules _ _ _ _ _ _ (zar_R _ _ _) hvC h1) rfl (Nat.zero_le 0) (by decide) (by decide) rfl (zgV zwd_443 zwd_444 zwd_445 zwd_1 zwd_446) rfl pX11_rules rfl ⟨rfl, rfl⟩ ⟨Nat.le_of_ble_eq_true rfl, Nat.le_of_ble_eq_true rfl⟩ (k' := k) (n' := n) ⟨rfl, rfl⟩ ⟨by show _ ≤ 601024; omega, by show _ ≤ 7293034; omega⟩ [] rfl (Nat.le_of_ble_eq_true rfl) (zd tL_law2 8 rfl) [zi r] rfl (fun p11 => ?_)
  refine w_aload_n C (zd tL_law2 9 rfl) rfl ?_
  refine w_arg L ⟨by omega, by omega⟩ rfl rfl (zd tL_law2 10 rfl) (zd tL_law2 11 rfl) (zd tL_law2 12 rfl) (zd tL_law2 13 rfl) (zd tL_law2 14 rfl) ?_
  refine w_callV C (o := 137) (nw := 24)  hRm (A := zwl (zEi E) (zEb E) 0 137 vC') (zAB_M hqa) (fun j _ => hcov _ (by omega)) (qX12_rules _ _ _ _ (zar_R _ _ _) hvM h2) rfl (Nat.le_refl 137) (by decide) (by decide) rfl (zgV zwd_1105 zwd_1106 zwd_1107 zwd_13 zwd_1108) rfl pX12_rules rfl ⟨rfl, rfl⟩ ⟨Nat.le_of_ble_eq_true rfl, Nat.le_of_ble_eq_true rfl⟩ (k' := k + 260) (n' := n + 2080) ⟨rfl, rfl⟩ ⟨by show _ ≤ 601024; omega, by show _ ≤ 7293034; omega⟩ [zi r] rfl (Nat.le_of_ble_eq_true rfl) (zd tL_law2 15 rfl) [zi r, zi r] rfl (fun p12 => ?_)
  refine w_ieq (tgt := 1272) C p11.2 (zd tL_law2 16 rfl) (by decide) ?_
  exact kk p11.1 p12.1 _
def zS_2 (xs : Nat → Int32) (i : Int) (vC vM vC' vM' : zHp) : Prop := ∃ r, fX11_count vC (zar xs i 1) = some (vC', r) ∧ fX12_count vM (zar xs i 1) = some (vM', r)
set_option maxRecDepth 100000 in
set_option maxHeartbeats 4000000 in
theorem s_2 (L : zLC E idJ qa sa N xs ad adV) (hi : 0 ≤ i ∧ i + 5 < (N : Int)) {vC' vM' : zHp} (hvC : zV 0 137 vC) (hvM : zV 137 24 vM) (h : zS_2 xs i vC vM vC' vM') (hk : k + 260 ≤ 601024 ∧ n + 2080 ≤ 7293034) (kk : zV 0 137 vC' → zV 137 24 vM' → ∀ gO, zY E (k + 260) (n + 2080) (zLW (zEi E) idJ (zEb E) qa vC' vM' gO) 1272 (zlo sa qa i) []) : zY E k n (zLW (zEi E) idJ (zEb E) qa vC vM gO) 242 (zlo sa qa i) [] := by
  obtain ⟨C, hKL, hZs, hTw, hRm, hN, hsT, hcov, hqa, hX, hNN⟩ := id L
  obtain ⟨r, h1, h2⟩ := h
  refine w_aload_n C (zd tL_law2 19 rfl) rfl ?_
  refine w_arg L ⟨by omega, by omega⟩ rfl rfl (zd tL_law2 20 rfl) (zd tL_law2 21 rfl) (zd tL_law2 22 rfl) (zd tL_law2 23 rfl) (zd tL_law2 24 rfl) ?_
  refine w_callV C (o := 0) (nw := 137)  hRm (A := []) (zAB_C hqa) (fun j _ => hcov _ (by omega)) (qX11_count _ _ _ _ (zar_R _ _ _) hvC h1) rfl (Nat.zero_le 0) (by decide) (by decide) rfl (zgV zwd_597 zwd_598 zwd_599 zwd_1 zwd_600) rfl pX11_count rfl ⟨rfl, rfl⟩ ⟨Nat.le_of_ble_eq_true rfl, Nat.le_of_ble_eq_true rfl⟩ (k' := k) (n' := n) ⟨rfl, rfl⟩ ⟨by show _ ≤ 601024; omega, by show _ ≤ 7293034; omega⟩ [] rfl (Nat.le_of_ble_eq_true rfl) (zd tL_law2 25 rfl) [zi r] rfl (fun p11 => ?_)
  refine w_aload_n C (zd tL_law2 26 rfl) rfl ?_
  refine w_arg L ⟨by omega, by omega⟩ rfl rfl (zd tL_law2 27 rfl) (zd tL_law2 28 rfl) (zd tL_law2 29 rfl) (zd tL_law2 30 rfl) (zd tL_law2 31 rfl) ?_
  refine w_callV C (o := 137) (nw := 24)  hRm (A := zwl (zEi E) (zEb E) 0 137 vC') (zAB_M hqa) (fun j _ => hcov _ (by omega)) (qX12_count _ _ _ _ (zar_R _ _ _) hvM h2) rfl (Nat.le_refl 137) (by decide) (by decide) rfl (zgV zwd_1165 zwd_1166 zwd_1167 zwd_13 zwd_1168) rfl pX12_count rfl ⟨rfl, rfl⟩ ⟨Nat.le_of_ble_eq_true rfl, Nat.le_of_ble_eq_true rfl⟩ (k' := k) (n' := n) ⟨rfl, rfl⟩ ⟨by show _ ≤ 601024; omega, by show _ ≤ 7293034; omega⟩ [zi r] rfl (Nat.le_of_ble_eq_true rfl) (zd tL_law2 32 rfl) [zi r, zi r] rfl (fun p12 => ?_)
  refine w_ieq (tgt := 1272) C p11.2 (zd tL_law2 33 rfl) (by decide) ?_
  exact w_widen (by omega) (by omega) (kk p11.1 p12.1 _)
def zS_4 (xs : Nat → Int32) (i : Int) (vC vM vC' vM' : zHp) : Prop := ∃ r, fX11_moment vC (zar xs i 1) (zar xs i 2) (zbo (zar xs i 3)) = some (vC', r) ∧ fX12_moment vM (zar xs i 1) (zar xs i 2) (zbo (zar xs i 3)) = some (vM', r)
set_option maxRecDepth 100000 in
set_option maxHeartbeats 4000000 in
theorem s_4 (L : zLC E idJ qa sa N xs ad adV) (hi : 0 ≤ i ∧ i + 5 < (N : Int)) {vC' vM' : zHp} (hvC : zV 0 137 vC) (hvM : zV 137 24 vM) (h : zS_4 xs i vC vM vC' vM') (hk : k + 260 ≤ 601024 ∧ n + 2080 ≤ 7293034) (kk : zV 0 137 vC' → zV 137 24 vM' → ∀ gO, zY E (k + 260) (n + 2080) (zLW (zEi E) idJ (zEb E) qa vC' vM' gO) 1272 (zlo sa qa i) []) : zY E k n (zLW (zEi E) idJ (zEb E) qa vC vM gO) 335 (zlo sa qa i) [] := by
  obtain ⟨C, hKL, hZs, hTw, hRm, hN, hsT, hcov, hqa, hX, hNN⟩ := id L
  obtain ⟨r, h1, h2⟩ := h
  refine w_aload_n C (zd tL_law4 1 rfl) rfl ?_
  refine w_arg L ⟨by omega, by omega⟩ rfl rfl (zd tL_law4 2 rfl) (zd tL_law4 3 rfl) (zd tL_law4 4 rfl) (zd tL_law4 5 rfl) (zd tL_law4 6 rfl) ?_
  refine w_arg L ⟨by omega, by omega⟩ rfl rfl (zd tL_law4 7 rfl) (zd tL_law4 8 rfl) (zd tL_law4 9 rfl) (zd tL_law4 10 rfl) (zd tL_law4 11 rfl) ?_
  refine w_arg L ⟨by omega, by omega⟩ rfl rfl (zd tL_law4 12 rfl) (zd tL_law4 13 rfl) (zd tL_law4 14 rfl) (zd tL_law4 15 rfl) (zd tL_law4 16 rfl) ?_
  refine w_bool L (zar_R _ _ _) (zd tL_law4 17 rfl) (zd tL_law4 18 rfl) (zd tL_law4 19 rfl) (zd tL_law4 20 rfl) ?_
  refine w_callV C (o := 0) (nw := 137)  hRm (A := []) (zAB_C hqa) (fun j _ => hcov _ (by omega)) (qX11_moment _ _ _ _ (zar_R _ _ _) (zar_R _ _ _) (zbo_R _) hvC h1) rfl (Nat.zero_le 0) (by decide) (by decide) rfl (zgV zwd_601 zwd_602 zwd_603 zwd_1 zwd_604) rfl pX11_moment rfl ⟨rfl, rfl⟩ ⟨Nat.le_of_ble_eq_true rfl, Nat.le_of_ble_eq_true rfl⟩ (k' := k) (n' := n) ⟨rfl, rfl⟩ ⟨by show _ ≤ 601024; omega, by show _ ≤ 7293034; omega⟩ [] rfl (Nat.le_of_ble_eq_true rfl) (zd tL_law4 21 rfl) [zi r] rfl (fun p11 => ?_)
  refine w_aload_n C (zd tL_law4 22 rfl) rfl ?_
  refine w_arg L ⟨by omega, by omega⟩ rfl rfl (zd tL_law4 23 rfl) (zd tL_law4 24 rfl) (zd tL_law4 25 rfl) (zd tL_law4 26 rfl) (zd tL_law4 27 rfl) ?_
  refine w_arg L ⟨by omega, by omega⟩ rfl rfl (zd tL_law4 28 rfl) (zd tL_law4 29 rfl) (zd tL_law4 30 rfl) (zd tL_law4 31 rfl) (zd tL_law4 32 rfl) ?_
  refine w_arg L ⟨by omega, by omega⟩ rfl rfl (zd tL_law4 33 rfl) (zd tL_law4 34 rfl) (zd tL_law4 35 rfl) (zd tL_law4 36 rfl) (zd tL_law4 37 rfl) ?_
  refine w_bool L (zar_R _ _ _) (zd tL_law4 38 rfl) (zd tL_law4 39 rfl) (zd tL_law5 0 rfl) (zd tL_law5 1 rfl) ?_
  refine w_callV C (o := 137) (nw := 24)  hRm (A := zwl (zEi E) (zEb E) 0 137 vC') (zAB_M hqa) (fun j _ => hcov _ (by omega)) (qX12_moment _ _ _ _ (zar_R _ _ _) (zar_R _ _ _) (zbo_R _) hvM h2) rfl (Nat.le_refl 137) (by decide) (by decide) rfl (zgV zwd_1181 zwd_1182 zwd_1183 zwd_13 zwd_1184) rfl pX12_moment rfl ⟨rfl, rfl⟩ ⟨Nat.le_of_ble_eq_true rfl, Nat.le_of_ble_eq_true rfl⟩ (k' := k) (n' := n) ⟨rfl, rfl⟩ ⟨by show _ ≤ 601024; omega, by show _ ≤ 7293034; omega⟩ [zi r] rfl (Nat.le_of_ble_eq_true rfl) (zd tL_law5 2 rfl) [zi r, zi r] rfl (fun p12 => ?_)
  refine w_ieq (tgt := 1272) C p11.2 (zd tL_law5 3 rfl) (by decide) ?_
  exact w_widen (by omega) (by omega) (kk p11.1 p12.1 _)
def zS_5 (xs : Nat → Int32) (i : Int) (vC vM vC' vM' : zHp) : Prop := ∃ r, fX11_clock vC (zar xs i 1) (zar xs i 2) = some (vC', r) ∧ fX12_clock vM (zar xs i 1) (zar xs i 2) = some (vM', r)
set_option maxRecDepth 100000 in
set_option maxHeartbeats 4000000 in
theorem s_5 (L : zLC E idJ qa sa N xs ad adV) (hi : 0 ≤ i ∧ i + 5 < (N : Int)) {vC' vM' : zHp} (hvC : zV 0 137 vC) (hvM : zV 137 24 vM) (h : zS_5 xs i vC vM vC' vM') (hk : k + 260 ≤ 601024 ∧ n + 2080 ≤ 7293034) (kk : zV 0 137 vC' → zV 137 24 vM' → ∀ gO, zY E (k + 260) (n + 2080) (zLW (zEi E) idJ (zEb E) qa vC' vM' gO) 1272 (zlo sa qa i) []) : zY E k n (zLW (zEi E) idJ (zEb E) qa vC vM gO) 400 (zlo sa qa i) [] := by
  obtain ⟨C, hKL, hZs, hTw, hRm, hN, hsT, hcov, hqa, hX, hNN⟩ := id L
  obtain ⟨r, h1, h2⟩ := h
  refine w_aload_n C (zd tL_law5 6 rfl) rfl ?_
  refine w_arg L ⟨by omega, by omega⟩ rfl rfl (zd tL_law5 7 rfl) (zd tL_law5 8 rfl) (zd tL_law5 9 rfl) (zd tL_law5 10 rfl) (zd tL_law5 11 rfl) ?_
  refine w_arg L ⟨by omega, by omega⟩ rfl rfl (zd tL_law5 12 rfl) (zd tL_law5 13 rfl) (zd tL_law5 14 rfl) (zd tL_law5 15 rfl) (zd tL_law5 16 rfl) ?_
  refine w_callV C (o := 0) (nw := 137)  hRm (A := []) (zAB_C hqa) (fun j _ => hcov _ (by omega)) (qX11_clock _ _ _ _ (zar_R _ _ _) (zar_R _ _ _) hvC h1) rfl (Nat.zero_le 0) (by decide) (by decide) rfl (zgV zwd_609 zwd_610 zwd_611 zwd_1 zwd_612) rfl pX11_clock rfl ⟨rfl, rfl⟩ ⟨Nat.le_of_ble_eq_true rfl, Nat.le_of_ble_eq_true rfl⟩ (k' := k) (n' := n) ⟨rfl, rfl⟩ ⟨by show _ ≤ 601024; omega, by show _ ≤ 7293034; omega⟩ [] rfl (Nat.le_of_ble_eq_true rfl) (zd tL_law5 17 rfl) [zi r] rfl (fun p11 => ?_)
  refine w_aload_n C (zd tL_law5 18 rfl) rfl ?_
  refine w_arg L ⟨by omega, by omega⟩ rfl rfl (zd tL_law5 19 rfl) (zd tL_law5 20 rfl) (zd tL_law5 21 rfl) (zd tL_law5 22 rfl) (zd tL_law5 23 rfl) ?_
  refine w_arg L ⟨by omega, by omega⟩ rfl rfl (zd tL_law5 24 rfl) (zd tL_law5 25 rfl) (zd tL_law5 26 rfl) (zd tL_law5 27 rfl) (zd tL_law5 28 rfl) ?_
  refine w_callV C (o := 137) (nw := 24)  hRm (A := zwl (zEi E) (zEb E) 0 137 vC') (zAB_M hqa) (fun j _ => hcov _ (by omega)) (qX12_clock _ _ _ _ (zar_R _ _ _) (zar_R _ _ _) hvM h2) rfl (Nat.le_refl 137) (by decide) (by decide) rfl (zgV zwd_1193 zwd_1194 zwd_1195 zwd_13 zwd_1196) rfl pX12_clock rfl ⟨rfl, rfl⟩ ⟨Nat.le_of_ble_eq_true rfl, Nat.le_of_ble_eq_true rfl⟩ (k' := k) (n' := n) ⟨rfl, rfl⟩ ⟨by show _ ≤ 601024; omega, by show _ ≤ 7293034; omega⟩ [zi r] rfl (Nat.le_of_ble_eq_true rfl) (zd tL_law5 29 rfl) [zi r, zi r] rfl (fun p12 => ?_)
  refine w_ieq (tgt := 1272) C p11.2 (zd tL_law5 30 rfl) (by decide) ?_
  exact w_widen (by omega) (by omega) (kk p11.1 p12.1 _)
def zS_6 (xs : Nat → Int32) (i : Int) (vC vM vC' vM' : zHp) : Prop := ∃ r, fX11_punch vC (zar xs i 1) (zar xs i 2) (zar xs i 3) (zar xs i 4) (zbo (zar xs i 5)) = some (vC', r) ∧ fX12_punch vM (zar xs i 1) (zar xs i 2) (zar xs i 3) (zar xs i 4) (zbo (zar xs i 5)) = some (vM', r)
set_option maxRecDepth 100000 in
set_option maxHeartbeats 4000000 in
theorem s_6 (L : zLC E idJ qa sa N xs ad adV) (hi : 0 ≤ i ∧ i + 5 < (N : Int)) {vC' vM' : zHp} (hvC : zV 0 137 vC) (hvM : zV 137 24 vM) (h : zS_6 xs i vC vM vC' vM') (hk : k + 260 ≤ 601024 ∧ n + 2080 ≤ 7293034) (kk : zV 0 137 vC' → zV 137 24 vM' → ∀ gO, zY E (k + 260) (n + 2080) (zLW (zEi E) idJ (zEb E) qa vC' vM' gO) 1272 (zlo sa qa i) []) : zY E k n (zLW (zEi E) idJ (zEb E) qa vC vM gO) 437 (zlo sa qa i) [] := by
  obtain ⟨C, hKL, hZs, hTw, hRm, hN, hsT, hcov, hqa, hX, hNN⟩ := id L
  obtain ⟨r, h1, h2⟩ := h
  refine w_aload_n C (zd tL_law5 33 rfl) rfl ?_
  refine w_arg L ⟨by omega, by omega⟩ rfl rfl (zd tL_law5 34 rfl) (zd tL_law5 35 rfl) (zd tL_law5 36 rfl) (zd tL_law5 37 rfl) (zd tL_law5 38 rfl) ?_
  refine w_arg L ⟨by omega, by omega⟩ rfl rfl (zd tL_law5 39 rfl) (zd tL_law6 0 rfl) (zd tL_law6 1 rfl) (zd tL_law6 2 rfl) (zd tL_law6 3 rfl) ?_
  refine w_arg L ⟨by omega, by omega⟩ rfl rfl (zd tL_law6 4 rfl) (zd tL_law6 5 rfl) (zd tL_law6 6 rfl) (zd tL_law6 7 rfl) (zd tL_law6 8 rfl) ?_
  refine w_arg L ⟨by omega, by omega⟩ rfl rfl (zd tL_law6 9 rfl) (zd tL_law6 10 rfl) (zd tL_law6 11 rfl) (zd tL_law6 12 rfl) (zd tL_law6 13 rfl) ?_
  refine w_arg L ⟨by omega, by omega⟩ rfl rfl (zd tL_law6 14 rfl) (zd tL_law6 15 rfl) (zd tL_law6 16 rfl) (zd tL_law6 17 rfl) (zd tL_law6 18 rfl) ?_
  refine w_bool L (zar_R _ _ _) (zd tL_law6 19 rfl) (zd tL_law6 20 rfl) (zd tL_law6 21 rfl) (zd tL_law6 22 rfl) ?_
  refine w_callV C (o := 0) (nw := 137)  hRm (A := []) (zAB_C hqa) (fun j _ => hcov _ (by omega)) (qX11_punch _ _ _ _ (zar_R _ _ _) (zar_R _ _ _) (zar_R _ _ _) (zar_R _ _ _) (zbo_R _) hvC h1) rfl (Nat.zero_le 0) (by decide) (by decide) rfl (zgV zwd_625 zwd_626 zwd_627 zwd_1 zwd_628) rfl pX11_punch rfl ⟨rfl, rfl⟩ ⟨Nat.le_of_ble_eq_true rfl, Nat.le_of_ble_eq_true rfl⟩ (k' := k) (n' := n) ⟨rfl, rfl⟩ ⟨by show _ ≤ 601024; omega, by show _ ≤ 7293034; omega⟩ [] rfl (Nat.le_of_ble_eq_true rfl) (zd tL_law6 23 rfl) [zi r] rfl (fun p11 => ?_)
  refine w_aload_n C (zd tL_law6 24 rfl) rfl ?_
  refine w_arg L ⟨by omega, by omega⟩ rfl rfl (zd tL_law6 25 rfl) (zd tL_law6 26 rfl) (zd tL_law6 27 rfl) (zd tL_law6 28 rfl) (zd tL_law6 29 rfl) ?_
  refine w_arg L ⟨by omega, by omega⟩ rfl rfl (zd tL_law6 30 rfl) (zd tL_law6 31 rfl) (zd tL_law6 32 rfl) (zd tL_law6 33 rfl) (zd tL_law6 34 rfl) ?_
  refine w_arg L ⟨by omega, by omega⟩ rfl rfl (zd tL_law6 35 rfl) (zd tL_law6 36 rfl) (zd tL_law6 37 rfl) (zd tL_law6 38 rfl) (zd tL_law6 39 rfl) ?_
  refine w_arg L ⟨by omega, by omega⟩ rfl rfl (zd tL_law7 0 rfl) (zd tL_law7 1 rfl) (zd tL_law7 2 rfl) (zd tL_law7 3 rfl) (zd tL_law7 4 rfl) ?_
  refine w_arg L ⟨by omega, by omega⟩ rfl rfl (zd tL_law7 5 rfl) (zd tL_law7 6 rfl) (zd tL_law7 7 rfl) (zd tL_law7 8 rfl) (zd tL_law7 9 rfl) ?_
  refine w_bool L (zar_R _ _ _) (zd tL_law7 10 rfl) (zd tL_law7 11 rfl) (zd tL_law7 12 rfl) (zd tL_law7 13 rfl) ?_
  refine w_callV C (o := 137) (nw := 24)  hRm (A := zwl (zEi E) (zEb E) 0 137 vC') (zAB_M hqa) (fun j _ => hcov _ (by omega)) (qX12_punch _ _ _ _ (zar_R _ _ _) (zar_R _ _ _) (zar_R _ _ _) (zar_R _ _ _) (zbo_R _) hvM h2) rfl (Nat.le_refl 137) (by decide) (by decide) rfl (zgV zwd_1203 zwd_1204 zwd_1205 zwd_13 zwd_1206) rfl pX12_punch rfl ⟨rfl, rfl⟩ ⟨Nat.le_of_ble_eq_true rfl, Nat.le_of_ble_eq_true rfl⟩ (k' := k) (n' := n) ⟨rfl, rfl⟩ ⟨by show _ ≤ 601024; omega, by show _ ≤ 7293034; omega⟩ [zi r] rfl (Nat.le_of_ble_eq_true rfl) (zd tL_law7 14 rfl) [zi r, zi r] rfl (fun p12 => ?_)
  refine w_ieq (tgt := 1272) C p11.2 (zd tL_law7 15 rfl) (by decide) ?_
  exact w_widen (by omega) (by omega) (kk p11.1 p12.1 _)
def zS_7 (xs : Nat → Int32) (i : Int) (vC vM vC' vM' : zHp) : Prop := ∃ r, fX11_strike vC (zar xs i 1) (zar xs i 2) (zar xs i 3) (zbo (zar xs i 4)) = some (vC', r) ∧ fX12_strike vM (zar xs i 1) (zar xs i 2) (zar xs i 3) (zbo (zar xs i 4)) = some (vM', r)
set_option maxRecDepth 100000 in
set_option maxHeartbeats 4000000 in
theorem s_7 (L : zLC E idJ qa sa N xs ad adV) (hi : 0 ≤ i ∧ i + 5 < (N : Int)) {vC' vM' : zHp} (hvC : zV 0 137 vC) (hvM : zV 137 24 vM) (h : zS_7 xs i vC vM vC' vM') (hk : k + 260 ≤ 601024 ∧ n + 2080 ≤ 7293034) (kk : zV 0 137 vC' → zV 137 24 vM' → ∀ gO, zY E (k + 260) (n + 2080) (zLW (zEi E) idJ (zEb E) qa vC' vM' gO) 1272 (zlo sa qa i) []) : zY E k n (zLW (zEi E) idJ (zEb E) qa vC vM gO) 526 (zlo sa qa i) [] := by
  obtain ⟨C, hKL, hZs, hTw, hRm, hN, hsT, hcov, hqa, hX, hNN⟩ := id L
  obtain ⟨r, h1, h2⟩ := h
  refine w_aload_n C (zd tL_law7 18 rfl) rfl ?_
  refine w_arg L ⟨by omega, by omega⟩ rfl rfl (zd tL_law7 19 rfl) (zd tL_law7 20 rfl) (zd tL_law7 21 rfl) (zd tL_law7 22 rfl) (zd tL_law7 23 rfl) ?_
  refine w_arg L ⟨by omega, by omega⟩ rfl rfl (zd tL_law7 24 rfl) (zd tL_law7 25 rfl) (zd tL_law7 26 rfl) (zd tL_law7 27 rfl) (zd tL_law7 28 rfl) ?_
  refine w_arg L ⟨by omega, by omega⟩ rfl rfl (zd tL_law7 29 rfl) (zd tL_law7 30 rfl) (zd tL_law7 31 rfl) (zd tL_law7 32 rfl) (zd tL_law7 33 rfl) ?_
  refine w_arg L ⟨by omega, by omega⟩ rfl rfl (zd tL_law7 34 rfl) (zd tL_law7 35 rfl) (zd tL_law7 36 rfl) (zd tL_law7 37 rfl) (zd tL_law7 38 rfl) ?_
  refine w_bool L (zar_R _ _ _) (zd tL_law7 39 rfl) (zd tL_law8 0 rfl) (zd tL_law8 1 rfl) (zd tL_law8 2 rfl) ?_
  refine w_callV C (o := 0) (nw := 137)  hRm (A := []) (zAB_C hqa) (fun j _ => hcov _ (by omega)) (qX11_strike _ _ _ _ (zar_R _ _ _) (zar_R _ _ _) (zar_R _ _ _) (zbo_R _) hvC h1) rfl (Nat.zero_le 0) (by decide) (by decide) rfl (zgV zwd_656 zwd_657 zwd_658 zwd_1 zwd_659) rfl pX11_strike rfl ⟨rfl, rfl⟩ ⟨Nat.le_of_ble_eq_true rfl, Nat.le_of_ble_eq_true rfl⟩ (k' := k) (n' := n) ⟨rfl, rfl⟩ ⟨by show _ ≤ 601024; omega, by show _ ≤ 7293034; omega⟩ [] rfl (Nat.le_of_ble_eq_true rfl) (zd tL_law8 3 rfl) [zi r] rfl (fun p11 => ?_)
  refine w_aload_n C (zd tL_law8 4 rfl) rfl ?_
  refine w_arg L ⟨by omega, by omega⟩ rfl rfl (zd tL_law8 5 rfl) (zd tL_law8 6 rfl) (zd tL_law8 7 rfl) (zd tL_law8 8 rfl) (zd tL_law8 9 rfl) ?_
  refine w_arg L ⟨by omega, by omega⟩ rfl rfl (zd tL_law8 10 rfl) (zd tL_law8 11 rfl) (zd tL_law8 12 rfl) (zd tL_law8 13 rfl) (zd tL_law8 14 rfl) ?_
  refine w_arg L ⟨by omega, by omega⟩ rfl rfl (zd tL_law8 15 rfl) (zd tL_law8 16 rfl) (zd tL_law8 17 rfl) (zd tL_law8 18 rfl) (zd tL_law8 19 rfl) ?_
  refine w_arg L ⟨by omega, by omega⟩ rfl rfl (zd tL_law8 20 rfl) (zd tL_law8 21 rfl) (zd tL_law8 22 rfl) (zd tL_law8 23 rfl) (zd tL_law8 24 rfl) ?_
  refine w_bool L (zar_R _ _ _) (zd tL_law8 25 rfl) (zd tL_law8 26 rfl) (zd tL_law8 27 rfl) (zd tL_law8 28 rfl) ?_
  refine w_callV C (o := 137) (nw := 24)  hRm (A := zwl (zEi E) (zEb E) 0 137 vC') (zAB_M hqa) (fun j _ => hcov _ (by omega)) (qX12_strike _ _ _ _ (zar_R _ _ _) (zar_R _ _ _) (zar_R _ _ _) (zbo_R _) hvM h2) rfl (Nat.le_refl 137) (by decide) (by decide) rfl (zgV zwd_1227 zwd_1228 zwd_1229 zwd_13 zwd_1230) rfl pX12_strike rfl ⟨rfl, rfl⟩ ⟨Nat.le_of_ble_eq_true rfl, Nat.le_of_ble_eq_true rfl⟩ (k' := k) (n' := n) ⟨rfl, rfl⟩ ⟨by show _ ≤ 601024; omega, by show _ ≤ 7293034; omega⟩ [zi r] rfl (Nat.le_of_ble_eq_true rfl) (zd tL_law8 29 rfl) [zi r, zi r] rfl (fun p12 => ?_)
  refine w_ieq (tgt := 1272) C p11.2 (zd tL_law8 30 rfl) (by decide) ?_
  exact w_widen (by omega) (by omega) (kk p11.1 p12.1 _)
def zS_8 (xs : Nat → Int32) (i : Int) (vC vM vC' vM' : zHp) : Prop := ∃ r, fX11_undo vC  = some (vC', r) ∧ fX12_undo vM  = some (vM', r)
set_option maxRecDepth 100000 in
set_option maxHeartbeats 4000000 in
theorem s_8 (L : zLC E idJ qa sa N xs ad adV) (hi : 0 ≤ i ∧ i + 5 < (N : Int)) {vC' vM' : zHp} (hvC : zV 0 137 vC) (hvM : zV 137 24 vM) (h : zS_8 xs i vC vM vC' vM') (hk : k + 260 ≤ 601024 ∧ n + 2080 ≤ 7293034) (kk : zV 0 137 vC' → zV 137 24 vM' → ∀ gO, zY E (k + 260) (n + 2080) (zLW (zEi E) idJ (zEb E) qa vC' vM' gO) 1272 (zlo sa qa i) []) : zY E k n (zLW (zEi E) idJ (zEb E) qa vC vM gO) 603 (zlo sa qa i) [] := by
  obtain ⟨C, hKL, hZs, hTw, hRm, hN, hsT, hcov, hqa, hX, hNN⟩ := id L
  obtain ⟨r, h1, h2⟩ := h
  refine w_aload_n C (zd tL_law8 33 rfl) rfl ?_
  refine w_callV C (o := 0) (nw := 137)  hRm (A := []) (zAB_C hqa) (fun j _ => hcov _ (by omega)) (qX11_undo _ _ _ _  hvC h1) rfl (Nat.zero_le 0) (by decide) (by decide) rfl (zgV zwd_665 zwd_666 zwd_667 zwd_1 zwd_668) rfl pX11_undo rfl ⟨rfl, rfl⟩ ⟨Nat.le_of_ble_eq_true rfl, Nat.le_of_ble_eq_true rfl⟩ (k' := k) (n' := n) ⟨rfl, rfl⟩ ⟨by show _ ≤ 601024; omega, by show _ ≤ 7293034; omega⟩ [] rfl (Nat.le_of_ble_eq_true rfl) (zd tL_law8 34 rfl) [zi r] rfl (fun p11 => ?_)
  refine w_aload_n C (zd tL_law8 35 rfl) rfl ?_
  refine w_callV C (o := 137) (nw := 24)  hRm (A := zwl (zEi E) (zEb E) 0 137 vC') (zAB_M hqa) (fun j _ => hcov _ (by omega)) (qX12_undo _ _ _ _  hvM h2) rfl (Nat.le_refl 137) (by decide) (by decide) rfl (zgV zwd_1235 zwd_1236 zwd_1237 zwd_13 zwd_1238) rfl pX12_undo rfl ⟨rfl, rfl⟩ ⟨Nat.le_of_ble_eq_true rfl, Nat.le_of_ble_eq_true rfl⟩ (k' := k) (n' := n) ⟨rfl, rfl⟩ ⟨by show _ ≤ 601024; omega, by show _ ≤ 7293034; omega⟩ [zi r] rfl (Nat.le_of_ble_eq_true rfl) (zd tL_law8 36 rfl) [zi r, zi r] rfl (fun p12 => ?_)
  refine w_ieq (tgt := 1272) C p11.2 (zd tL_law8 37 rfl) (by decide) ?_
  exact w_widen (by omega) (by omega) (kk p11.1 p12.1 _)
def zS_9 (xs : Nat → Int32) (i : Int) (vC vM vC' vM' : zHp) : Prop := ∃ r, fX11_punched vC (zar xs i 1) (zar xs i 2) (zar xs i 3) = some (vC', r) ∧ fX12_punched vM (zar xs i 1) (zar xs i 2) (zar xs i 3) = some (vM', r)
set_option maxRecDepth 100000 in
set_option maxHeartbeats 4000000 in
theorem s_9 (L : zLC E idJ qa sa N xs ad adV) (hi : 0 ≤ i ∧ i + 5 < (N : Int)) {vC' vM' : zHp} (hvC : zV 0 137 vC) (hvM : zV 137 24 vM) (h : zS_9 xs i vC vM vC' vM') (hk : k + 260 ≤ 601024 ∧ n + 2080 ≤ 7293034) (kk : zV 0 137 vC' → zV 137 24 vM' → ∀ gO, zY E (k + 260) (n + 2080) (zLW (zEi E) idJ (zEb E) qa vC' vM' gO) 1272 (zlo sa qa i) []) : zY E k n (zLW (zEi E) idJ (zEb E) qa vC vM gO) 616 (zlo sa qa i) [] := by
  obtain ⟨C, hKL, hZs, hTw, hRm, hN, hsT, hcov, hqa, hX, hNN⟩ := id L
  obtain ⟨r, h1, h2⟩ := h
  refine w_aload_n C (zd tL_law9 0 rfl) rfl ?_
  refine w_arg L ⟨by omega, by omega⟩ rfl rfl (zd tL_law9 1 rfl) (zd tL_law9 2 rfl) (zd tL_law9 3 rfl) (zd tL_law9 4 rfl) (zd tL_law9 5 rfl) ?_
  refine w_arg L ⟨by omega, by omega⟩ rfl rfl (zd tL_law9 6 rfl) (zd tL_law9 7 rfl) (zd tL_law9 8 rfl) (zd tL_law9 9 rfl) (zd tL_law9 10 rfl) ?_
  refine w_arg L ⟨by omega, by omega⟩ rfl rfl (zd tL_law9 11 rfl) (zd tL_law9 12 rfl) (zd tL_law9 13 rfl) (zd tL_law9 14 rfl) (zd tL_law9 15 rfl) ?_
  refine w_callV C (o := 0) (nw := 137)  hRm (A := []) (zAB_C hqa) (fun j _ => hcov _ (by omega)) (qX11_punched _ _ _ _ (zar_R _ _ _) (zar_R _ _ _) (zar_R _ _ _) hvC h1) rfl (Nat.zero_le 0) (by decide) (by decide) rfl (zgV zwd_669 zwd_670 zwd_671 zwd_1 zwd_672) rfl pX11_punched rfl ⟨rfl, rfl⟩ ⟨Nat.le_of_ble_eq_true rfl, Nat.le_of_ble_eq_true rfl⟩ (k' := k) (n' := n) ⟨rfl, rfl⟩ ⟨by show _ ≤ 601024; omega, by show _ ≤ 7293034; omega⟩ [] rfl (Nat.le_of_ble_eq_true rfl) (zd tL_law9 16 rfl) [zi r] rfl (fun p11 => ?_)
  refine w_aload_n C (zd tL_law9 17 rfl) rfl ?_
  refine w_arg L ⟨by omega, by omega⟩ rfl rfl (zd tL_law9 18 rfl) (zd tL_law9 19 rfl) (zd tL_law9 20 rfl) (zd tL_law9 21 rfl) (zd tL_law9 22 rfl) ?_
  refine w_arg L ⟨by omega, by omega⟩ rfl rfl (zd tL_law9 23 rfl) (zd tL_law9 24 rfl) (zd tL_law9 25 rfl) (zd tL_law9 26 rfl) (zd tL_law9 27 rfl) ?_
  refine w_arg L ⟨by omega, by omega⟩ rfl rfl (zd tL_law9 28 rfl) (zd tL_law9 29 rfl) (zd tL_law9 30 rfl) (zd tL_law9 31 rfl) (zd tL_law9 32 rfl) ?_
  refine w_callV C (o := 137) (nw := 24)  hRm (A := zwl (zEi E) (zEb E) 0 137 vC') (zAB_M hqa) (fun j _ => hcov _ (by omega)) (qX12_punched _ _ _ _ (zar_R _ _ _) (zar_R _ _ _) (zar_R _ _ _) hvM h2) rfl (Nat.le_refl 137) (by decide) (by decide) rfl (zgV zwd_1239 zwd_1240 zwd_1241 zwd_13 zwd_1242) rfl pX12_punched rfl ⟨rfl, rfl⟩ ⟨Nat.le_of_ble_eq_true rfl, Nat.le_of_ble_eq_true rfl⟩ (k' := k) (n' := n) ⟨rfl, rfl⟩ ⟨by show _ ≤ 601024; omega, by show _ ≤ 7293034; omega⟩ [zi r] rfl (Nat.le_of_ble_eq_true rfl) (zd tL_law9 33 rfl) [zi r, zi r] rfl (fun p12 => ?_)
  refine w_ieq (tgt := 1272) C p11.2 (zd tL_law9 34 rfl) (by decide) ?_
  exact w_widen (by omega) (by omega) (kk p11.1 p12.1 _)
def zS_10 (xs : Nat → Int32) (i : Int) (vC vM vC' vM' : zHp) : Prop := ∃ r, fX11_span vC (zar xs i 1) (zar xs i 2) (zar xs i 3) = some (vC', r) ∧ fX12_span vM (zar xs i 1) (zar xs i 2) (zar xs i 3) = some (vM', r)
set_option maxRecDepth 100000 in
set_option maxHeartbeats 4000000 in
theorem s_10 (L : zLC E idJ qa sa N xs ad adV) (hi : 0 ≤ i ∧ i + 5 < (N : Int)) {vC' vM' : zHp} (hvC : zV 0 137 vC) (hvM : zV 137 24 vM) (h : zS_10 xs i vC vM vC' vM') (hk : k + 260 ≤ 601024 ∧ n + 2080 ≤ 7293034) (kk : zV 0 137 vC' → zV 137 24 vM' → ∀ gO, zY E (k + 260) (n + 2080) (zLW (zEi E) idJ (zEb E) qa vC' vM' gO) 1272 (zlo sa qa i) []) : zY E k n (zLW (zEi E) idJ (zEb E) qa vC vM gO) 665 (zlo sa qa i) [] := by
  obtain ⟨C, hKL, hZs, hTw, hRm, hN, hsT, hcov, hqa, hX, hNN⟩ := id L
  obtain ⟨r, h1, h2⟩ := h
  refine w_aload_n C (zd tL_law9 37 rfl) rfl ?_
  refine w_arg L ⟨by omega, by omega⟩ rfl rfl (zd tL_law9 38 rfl) (zd tL_law9 39 rfl) (zd tL_law10 0 rfl) (zd tL_law10 1 rfl) (zd tL_law10 2 rfl) ?_
  refine w_arg L ⟨by omega, by omega⟩ rfl rfl (zd tL_law10 3 rfl) (zd tL_law10 4 rfl) (zd tL_law10 5 rfl) (zd tL_law10 6 rfl) (zd tL_law10 7 rfl) ?_
  refine w_arg L ⟨by omega, by omega⟩ rfl rfl (zd tL_law10 8 rfl) (zd tL_law10 9 rfl) (zd tL_law10 10 rfl) (zd tL_law10 11 rfl) (zd tL_law10 12 rfl) ?_
  refine w_callV C (o := 0) (nw := 137)  hRm (A := []) (zAB_C hqa) (fun j _ => hcov _ (by omega)) (qX11_span _ _ _ _ (zar_R _ _ _) (zar_R _ _ _) (zar_R _ _ _) hvC h1) rfl (Nat.zero_le 0) (by decide) (by decide) rfl (zgV zwd_810 zwd_811 zwd_812 zwd_1 zwd_813) rfl pX11_span rfl ⟨rfl, rfl⟩ ⟨Nat.le_of_ble_eq_true rfl, Nat.le_of_ble_eq_true rfl⟩ (k' := k) (n' := n) ⟨rfl, rfl⟩ ⟨by show _ ≤ 601024; omega, by show _ ≤ 7293034; omega⟩ [] rfl (Nat.le_of_ble_eq_true rfl) (zd tL_law10 13 rfl) [zi r] rfl (fun p11 => ?_)
  refine w_aload_n C (zd tL_law10 14 rfl) rfl ?_
  refine w_arg L ⟨by omega, by omega⟩ rfl rfl (zd tL_law10 15 rfl) (zd tL_law10 16 rfl) (zd tL_law10 17 rfl) (zd tL_law10 18 rfl) (zd tL_law10 19 rfl) ?_
  refine w_arg L ⟨by omega, by omega⟩ rfl rfl (zd tL_law10 20 rfl) (zd tL_law10 21 rfl) (zd tL_law10 22 rfl) (zd tL_law10 23 rfl) (zd tL_law10 24 rfl) ?_
  refine w_arg L ⟨by omega, by omega⟩ rfl rfl (zd tL_law10 25 rfl) (zd tL_law10 26 rfl) (zd tL_law10 27 rfl) (zd tL_law10 28 rfl) (zd tL_law10 29 rfl) ?_
  refine w_callV C (o := 137) (nw := 24)  hRm (A := zwl (zEi E) (zEb E) 0 137 vC') (zAB_M hqa) (fun j _ => hcov _ (by omega)) (qX12_span _ _ _ _ (zar_R _ _ _) (zar_R _ _ _) (zar_R _ _ _) hvM h2) rfl (Nat.le_refl 137) (by decide) (by decide) rfl (zgV zwd_1251 zwd_1252 zwd_1253 zwd_13 zwd_1254) rfl pX12_span rfl ⟨rfl, rfl⟩ ⟨Nat.le_of_ble_eq_true rfl, Nat.le_of_ble_eq_true rfl⟩ (k' := k) (n' := n) ⟨rfl, rfl⟩ ⟨by show _ ≤ 601024; omega, by show _ ≤ 7293034; omega⟩ [zi r] rfl (Nat.le_of_ble_eq_true rfl) (zd tL_law10 30 rfl) [zi r, zi r] rfl (fun p12 => ?_)
  refine w_ieq (tgt := 1272) C p11.2 (zd tL_law10 31 rfl) (by decide) ?_
  exact w_widen (by omega) (by omega) (kk p11.1 p12.1 _)
def zS_12 (xs : Nat → Int32) (i : Int) (vC vM vC' vM' : zHp) : Prop := ∃ r, fX11_day vC (zar xs i 1) (zar xs i 2) (zar xs i 3) = some (vC', r) ∧ fX12_day vM (zar xs i 1) (zar xs i 2) (zar xs i 3) = some (vM', r)
set_option maxRecDepth 100000 in
set_option maxHeartbeats 4000000 in
theorem s_12 (L : zLC E idJ qa sa N xs ad adV) (hi : 0 ≤ i ∧ i + 5 < (N : Int)) {vC' vM' : zHp} (hvC : zV 0 137 vC) (hvM : zV 137 24 vM) (h : zS_12 xs i vC vM vC' vM') (hk : k + 260 ≤ 601024 ∧ n + 2080 ≤ 7293034) (kk : zV 0 137 vC' → zV 137 24 vM' → ∀ gO, zY E (k + 260) (n + 2080) (zLW (zEi E) idJ (zEb E) qa vC' vM' gO) 1272 (zlo sa qa i) []) : zY E k n (zLW (zEi E) idJ (zEb E) qa vC vM gO) 794 (zlo sa qa i) [] := by
  obtain ⟨C, hKL, hZs, hTw, hRm, hN, hsT, hcov, hqa, hX, hNN⟩ := id L
  obtain ⟨r, h1, h2⟩ := h
  refine w_aload_n C (zd tL_law12 9 rfl) rfl ?_
  refine w_arg L ⟨by omega, by omega⟩ rfl rfl (zd tL_law12 10 rfl) (zd tL_law12 11 rfl) (zd tL_law12 12 rfl) (zd tL_law12 13 rfl) (zd tL_law12 14 rfl) ?_
  refine w_arg L ⟨by omega, by omega⟩ rfl rfl (zd tL_law12 15 rfl) (zd tL_law12 16 rfl) (zd tL_law12 17 rfl) (zd tL_law12 18 rfl) (zd tL_law12 19 rfl) ?_
  refine w_arg L ⟨by omega, by omega⟩ rfl rfl (zd tL_law12 20 rfl) (zd tL_law12 21 rfl) (zd tL_law12 22 rfl) (zd tL_law12 23 rfl) (zd tL_law12 24 rfl) ?_
  refine w_callV C (o := 0) (nw := 137)  hRm (A := []) (zAB_C hqa) (fun j _ => hcov _ (by omega)) (qX11_day _ _ _ _ (zar_R _ _ _) (zar_R _ _ _) (zar_R _ _ _) hvC h1) rfl (Nat.zero_le 0) (by decide) (by decide) rfl (zgV zwd_814 zwd_815 zwd_816 zwd_1 zwd_817) rfl pX11_day rfl ⟨rfl, rfl⟩ ⟨Nat.le_of_ble_eq_true rfl, Nat.le_of_ble_eq_true rfl⟩ (k' := k) (n' := n) ⟨rfl, rfl⟩ ⟨by show _ ≤ 601024; omega, by show _ ≤ 7293034; omega⟩ [] rfl (Nat.le_of_ble_eq_true rfl) (zd tL_law12 25 rfl) [zi r] rfl (fun p11 => ?_)
  refine w_aload_n C (zd tL_law12 26 rfl) rfl ?_
  refine w_arg L ⟨by omega, by omega⟩ rfl rfl (zd tL_law12 27 rfl) (zd tL_law12 28 rfl) (zd tL_law12 29 rfl) (zd tL_law12 30 rfl) (zd tL_law12 31 rfl) ?_
  refine w_arg L ⟨by omega, by omega⟩ rfl rfl (zd tL_law12 32 rfl) (zd tL_law12 33 rfl) (zd tL_law12 34 rfl) (zd tL_law12 35 rfl) (zd tL_law12 36 rfl) ?_
  refine w_arg L ⟨by omega, by omega⟩ rfl rfl (zd tL_law12 37 rfl) (zd tL_law12 38 rfl) (zd tL_law12 39 rfl) (zd tL_law13 0 rfl) (zd tL_law13 1 rfl) ?_
  refine w_callV C (o := 137) (nw := 24)  hRm (A := zwl (zEi E) (zEb E) 0 137 vC') (zAB_M hqa) (fun j _ => hcov _ (by omega)) (qX12_day _ _ _ _ (zar_R _ _ _) (zar_R _ _ _) (zar_R _ _ _) hvM h2) rfl (Nat.le_refl 137) (by decide) (by decide) rfl (zgV zwd_1323 zwd_1324 zwd_1325 zwd_13 zwd_1326) rfl pX12_day rfl ⟨rfl, rfl⟩ ⟨Nat.le_of_ble_eq_true rfl, Nat.le_of_ble_eq_true rfl⟩ (k' := k) (n' := n) ⟨rfl, rfl⟩ ⟨by show _ ≤ 601024; omega, by show _ ≤ 7293034; omega⟩ [zi r] rfl (Nat.le_of_ble_eq_true rfl) (zd tL_law13 2 rfl) [zi r, zi r] rfl (fun p12 => ?_)
  refine w_ieq (tgt := 1272) C p11.2 (zd tL_law13 3 rfl) (by decide) ?_
  exact w_widen (by omega) (by omega) (kk p11.1 p12.1 _)
def zS_13 (xs : Nat → Int32) (i : Int) (vC vM vC' vM' : zHp) : Prop := ∃ r, fX11_week vC (zar xs i 1) (zar xs i 2) (zar xs i 3) = some (vC', r) ∧ fX12_week vM (zar xs i 1) (zar xs i 2) (zar xs i 3) = some (vM', r)
set_option maxRecDepth 100000 in
set_option maxHeartbeats 4000000 in
theorem s_13 (L : zLC E idJ qa sa N xs ad adV) (hi : 0 ≤ i ∧ i + 5 < (N : Int)) {vC' vM' : zHp} (hvC : zV 0 137 vC) (hvM : zV 137 24 vM) (h : zS_13 xs i vC vM vC' vM') (hk : k + 260 ≤ 601024 ∧ n + 2080 ≤ 7293034) (kk : zV 0 137 vC' → zV 137 24 vM' → ∀ gO, zY E (k + 260) (n + 2080) (zLW (zEi E) idJ (zEb E) qa vC' vM' gO) 1272 (zlo sa qa i) []) : zY E k n (zLW (zEi E) idJ (zEb E) qa vC vM gO) 843 (zlo sa qa i) [] := by
  obtain ⟨C, hKL, hZs, hTw, hRm, hN, hsT, hcov, hqa, hX, hNN⟩ := id L
  obtain ⟨r, h1, h2⟩ := h
  refine w_aload_n C (zd tL_law13 6 rfl) rfl ?_
  refine w_arg L ⟨by omega, by omega⟩ rfl rfl (zd tL_law13 7 rfl) (zd tL_law13 8 rfl) (zd tL_law13 9 rfl) (zd tL_law13 10 rfl) (zd tL_law13 11 rfl) ?_
  refine w_arg L ⟨by omega, by omega⟩ rfl rfl (zd tL_law13 12 rfl) (zd tL_law13 13 rfl) (zd tL_law13 14 rfl) (zd tL_law13 15 rfl) (zd tL_law13 16 rfl) ?_
  refine w_arg L ⟨by omega, by omega⟩ rfl rfl (zd tL_law13 17 rfl) (zd tL_law13 18 rfl) (zd tL_law13 19 rfl) (zd tL_law13 20 rfl) (zd tL_law13 21 rfl) ?_
  refine w_callV C (o := 0) (nw := 137)  hRm (A := []) (zAB_C hqa) (fun j _ => hcov _ (by omega)) (qX11_week _ _ _ _ (zar_R _ _ _) (zar_R _ _ _) (zar_R _ _ _) hvC h1) rfl (Nat.zero_le 0) (by decide) (by decide) rfl (zgV zwd_827 zwd_828 zwd_829 zwd_1 zwd_830) rfl pX11_week rfl ⟨rfl, rfl⟩ ⟨Nat.le_of_ble_eq_true rfl, Nat.le_of_ble_eq_true rfl⟩ (k' := k) (n' := n) ⟨rfl, rfl⟩ ⟨by show _ ≤ 601024; omega, by show _ ≤ 7293034; omega⟩ [] rfl (Nat.le_of_ble_eq_true rfl) (zd tL_law13 22 rfl) [zi r] rfl (fun p11 => ?_)
  refine w_aload_n C (zd tL_law13 23 rfl) rfl ?_
  refine w_arg L ⟨by omega, by omega⟩ rfl rfl (zd tL_law13 24 rfl) (zd tL_law13 25 rfl) (zd tL_law13 26 rfl) (zd tL_law13 27 rfl) (zd tL_law13 28 rfl) ?_
  refine w_arg L ⟨by omega, by omega⟩ rfl rfl (zd tL_law13 29 rfl) (zd tL_law13 30 rfl) (zd tL_law13 31 rfl) (zd tL_law13 32 rfl) (zd tL_law13 33 rfl) ?_
  refine w_arg L ⟨by omega, by omega⟩ rfl rfl (zd tL_law13 34 rfl) (zd tL_law13 35 rfl) (zd tL_law13 36 rfl) (zd tL_law13 37 rfl) (zd tL_law13 38 rfl) ?_
  refine w_callV C (o := 137) (nw := 24)  hRm (A := zwl (zEi E) (zEb E) 0 137 vC') (zAB_M hqa) (fun j _ => hcov _ (by omega)) (qX12_week _ _ _ _ (zar_R _ _ _) (zar_R _ _ _) (zar_R _ _ _) hvM h2) rfl (Nat.le_refl 137) (by decide) (by decide) rfl (zgV zwd_1335 zwd_1336 zwd_1337 zwd_13 zwd_1338) rfl pX12_week rfl ⟨rfl, rfl⟩ ⟨Nat.le_of_ble_eq_true rfl, Nat.le_of_ble_eq_true rfl⟩ (k' := k) (n' := n) ⟨rfl, rfl⟩ ⟨by show _ ≤ 601024; omega, by show _ ≤ 7293034; omega⟩ [zi r] rfl (Nat.le_of_ble_eq_true rfl) (zd tL_law13 39 rfl) [zi r, zi r] rfl (fun p12 => ?_)
  refine w_ieq (tgt := 1272) C p11.2 (zd tL_law14 0 rfl) (by decide) ?_
  exact w_widen (by omega) (by omega) (kk p11.1 p12.1 _)
def zS_14 (xs : Nat → Int32) (i : Int) (vC vM vC' vM' : zHp) : Prop := ∃ r, fX11_counted vC (zar xs i 1) (zar xs i 2) (zbo (zar xs i 3)) = some (vC', r) ∧ fX12_counted vM (zar xs i 1) (zar xs i 2) (zbo (zar xs i 3)) = some (vM', r)
set_option maxRecDepth 100000 in
set_option maxHeartbeats 4000000 in
theorem s_14 (L : zLC E idJ qa sa N xs ad adV) (hi : 0 ≤ i ∧ i + 5 < (N : Int)) {vC' vM' : zHp} (hvC : zV 0 137 vC) (hvM : zV 137 24 vM) (h : zS_14 xs i vC vM vC' vM') (hk : k + 260 ≤ 601024 ∧ n + 2080 ≤ 7293034) (kk : zV 0 137 vC' → zV 137 24 vM' → ∀ gO, zY E (k + 260) (n + 2080) (zLW (zEi E) idJ (zEb E) qa vC' vM' gO) 1272 (zlo sa qa i) []) : zY E k n (zLW (zEi E) idJ (zEb E) qa vC vM gO) 892 (zlo sa qa i) [] := by
  obtain ⟨C, hKL, hZs, hTw, hRm, hN, hsT, hcov, hqa, hX, hNN⟩ := id L
  obtain ⟨r, h1, h2⟩ := h
  refine w_aload_n C (zd tL_law14 3 rfl) rfl ?_
  refine w_arg L ⟨by omega, by omega⟩ rfl rfl (zd tL_law14 4 rfl) (zd tL_law14 5 rfl) (zd tL_law14 6 rfl) (zd tL_law14 7 rfl) (zd tL_law14 8 rfl) ?_
  refine w_arg L ⟨by omega, by omega⟩ rfl rfl (zd tL_law14 9 rfl) (zd tL_law14 10 rfl) (zd tL_law14 11 rfl) (zd tL_law14 12 rfl) (zd tL_law14 13 rfl) ?_
  refine w_arg L ⟨by omega, by omega⟩ rfl rfl (zd tL_law14 14 rfl) (zd tL_law14 15 rfl) (zd tL_law14 16 rfl) (zd tL_law14 17 rfl) (zd tL_law14 18 rfl) ?_
  refine w_bool L (zar_R _ _ _) (zd tL_law14 19 rfl) (zd tL_law14 20 rfl) (zd tL_law14 21 rfl) (zd tL_law14 22 rfl) ?_
  refine w_callV C (o := 0) (nw := 137)  hRm (A := []) (zAB_C hqa) (fun j _ => hcov _ (by omega)) (qX11_counted _ _ _ _ (zar_R _ _ _) (zar_R _ _ _) (zbo_R _) hvC h1) rfl (Nat.zero_le 0) (by decide) (by decide) rfl (zgV zwd_834 zwd_835 zwd_836 zwd_1 zwd_837) rfl pX11_counted rfl ⟨rfl, rfl⟩ ⟨Nat.le_of_ble_eq_true rfl, Nat.le_of_ble_eq_true rfl⟩ (k' := k) (n' := n) ⟨rfl, rfl⟩ ⟨by show _ ≤ 601024; omega, by show _ ≤ 7293034; omega⟩ [] rfl (Nat.le_of_ble_eq_true rfl) (zd tL_law14 23 rfl) [zi r] rfl (fun p11 => ?_)
  refine w_aload_n C (zd tL_law14 24 rfl) rfl ?_
  refine w_arg L ⟨by omega, by omega⟩ rfl rfl (zd tL_law14 25 rfl) (zd tL_law14 26 rfl) (zd tL_law14 27 rfl) (zd tL_law14 28 rfl) (zd tL_law14 29 rfl) ?_
  refine w_arg L ⟨by omega, by omega⟩ rfl rfl (zd tL_law14 30 rfl) (zd tL_law14 31 rfl) (zd tL_law14 32 rfl) (zd tL_law14 33 rfl) (zd tL_law14 34 rfl) ?_
  refine w_arg L ⟨by omega, by omega⟩ rfl rfl (zd tL_law14 35 rfl) (zd tL_law14 36 rfl) (zd tL_law14 37 rfl) (zd tL_law14 38 rfl) (zd tL_law14 39 rfl) ?_
  refine w_bool L (zar_R _ _ _) (zd tL_law15 0 rfl) (zd tL_law15 1 rfl) (zd tL_law15 2 rfl) (zd tL_law15 3 rfl) ?_
  refine w_callV C (o := 137) (nw := 24)  hRm (A := zwl (zEi E) (zEb E) 0 137 vC') (zAB_M hqa) (fun j _ => hcov _ (by omega)) (qX12_counted _ _ _ _ (zar_R _ _ _) (zar_R _ _ _) (zbo_R _) hvM h2) rfl (Nat.le_refl 137) (by decide) (by decide) rfl (zgV zwd_1343 zwd_1344 zwd_1345 zwd_13 zwd_1346) rfl pX12_counted rfl ⟨rfl, rfl⟩ ⟨Nat.le_of_ble_eq_true rfl, Nat.le_of_ble_eq_true rfl⟩ (k' := k) (n' := n) ⟨rfl, rfl⟩ ⟨by show _ ≤ 601024; omega, by show _ ≤ 7293034; omega⟩ [zi r] rfl (Nat.le_of_ble_eq_true rfl) (zd tL_law15 4 rfl) [zi r, zi r] rfl (fun p12 => ?_)
  refine w_ieq (tgt := 1272) C p11.2 (zd tL_law15 5 rfl) (by decide) ?_
  exact w_widen (by omega) (by omega) (kk p11.1 p12.1 _)
def zS_15 (xs : Nat → Int32) (i : Int) (vC vM vC' vM' : zHp) : Prop := ∃ r, fX11_pay vC (zar xs i 1) (zar xs i 2) (zbo (zar xs i 3)) = some (vC', r) ∧ fX12_pay vM (zar xs i 1) (zar xs i 2) (zbo (zar xs i 3)) = some (vM', r)
set_option maxRecDepth 100000 in
set_option maxHeartbeats 4000000 in
theorem s_15 (L : zLC E idJ qa sa N xs ad adV) (hi : 0 ≤ i ∧ i + 5 < (N : Int)) {vC' vM' : zHp} (hvC : zV 0 137 vC) (hvM : zV 137 24 vM) (h : zS_15 xs i vC vM vC' vM') (hk : k + 260 ≤ 601024 ∧ n + 2080 ≤ 7293034) (kk : zV 0 137 vC' → zV 137 24 vM' → ∀ gO, zY E (k + 260) (n + 2080) (zLW (zEi E) idJ (zEb E) qa vC' vM' gO) 1272 (zlo sa qa i) []) : zY E k n (zLW (zEi E) idJ (zEb E) qa vC vM gO) 957 (zlo sa qa i) [] := by
  obtain ⟨C, hKL, hZs, hTw, hRm, hN, hsT, hcov, hqa, hX, hNN⟩ := id L
  obtain ⟨r, h1, h2⟩ := h
  refine w_aload_n C (zd tL_law15 8 rfl) rfl ?_
  refine w_arg L ⟨by omega, by omega⟩ rfl rfl (zd tL_law15 9 rfl) (zd tL_law15 10 rfl) (zd tL_law15 11 rfl) (zd tL_law15 12 rfl) (zd tL_law15 13 rfl) ?_
  refine w_arg L ⟨by omega, by omega⟩ rfl rfl (zd tL_law15 14 rfl) (zd tL_law15 15 rfl) (zd tL_law15 16 rfl) (zd tL_law15 17 rfl) (zd tL_law15 18 rfl) ?_
  refine w_arg L ⟨by omega, by omega⟩ rfl rfl (zd tL_law15 19 rfl) (zd tL_law15 20 rfl) (zd tL_law15 21 rfl) (zd tL_law15 22 rfl) (zd tL_law15 23 rfl) ?_
  refine w_bool L (zar_R _ _ _) (zd tL_law15 24 rfl) (zd tL_law15 25 rfl) (zd tL_law15 26 rfl) (zd tL_law15 27 rfl) ?_
  refine w_callV C (o := 0) (nw := 137)  hRm (A := []) (zAB_C hqa) (fun j _ => hcov _ (by omega)) (qX11_pay _ _ _ _ (zar_R _ _ _) (zar_R _ _ _) (zbo_R _) hvC h1) rfl (Nat.zero_le 0) (by decide) (by decide) rfl (zgV zwd_839 zwd_840 zwd_841 zwd_1 zwd_842) rfl pX11_pay rfl ⟨rfl, rfl⟩ ⟨Nat.le_of_ble_eq_true rfl, Nat.le_of_ble_eq_true rfl⟩ (k' := k) (n' := n) ⟨rfl, rfl⟩ ⟨by show _ ≤ 601024; omega, by show _ ≤ 7293034; omega⟩ [] rfl (Nat.le_of_ble_eq_true rfl) (zd tL_law15 28 rfl) [zi r] rfl (fun p11 => ?_)
  refine w_aload_n C (zd tL_law15 29 rfl) rfl ?_
  refine w_arg L ⟨by omega, by omega⟩ rfl rfl (zd tL_law15 30 rfl) (zd tL_law15 31 rfl) (zd tL_law15 32 rfl) (zd tL_law15 33 rfl) (zd tL_law15 34 rfl) ?_
  refine w_arg L ⟨by omega, by omega⟩ rfl rfl (zd tL_law15 35 rfl) (zd tL_law15 36 rfl) (zd tL_law15 37 rfl) (zd tL_law15 38 rfl) (zd tL_law15 39 rfl) ?_
  refine w_arg L ⟨by omega, by omega⟩ rfl rfl (zd tL_law16 0 rfl) (zd tL_law16 1 rfl) (zd tL_law16 2 rfl) (zd tL_law16 3 rfl) (zd tL_law16 4 rfl) ?_
  refine w_bool L (zar_R _ _ _) (zd tL_law16 5 rfl) (zd tL_law16 6 rfl) (zd tL_law16 7 rfl) (zd tL_law16 8 rfl) ?_
  refine w_callV C (o := 137) (nw := 24)  hRm (A := zwl (zEi E) (zEb E) 0 137 vC') (zAB_M hqa) (fun j _ => hcov _ (by omega)) (qX12_pay _ _ _ _ (zar_R _ _ _) (zar_R _ _ _) (zbo_R _) hvM h2) rfl (Nat.le_refl 137) (by decide) (by decide) rfl (zgV zwd_1347 zwd_1348 zwd_1349 zwd_13 zwd_1350) rfl pX12_pay rfl ⟨rfl, rfl⟩ ⟨Nat.le_of_ble_eq_true rfl, Nat.le_of_ble_eq_true rfl⟩ (k' := k) (n' := n) ⟨rfl, rfl⟩ ⟨by show _ ≤ 601024; omega, by show _ ≤ 7293034; omega⟩ [zi r] rfl (Nat.le_of_ble_eq_true rfl) (zd tL_law16 9 rfl) [zi r, zi r] rfl (fun p12 => ?_)
  refine w_ieq (tgt := 1272) C p11.2 (zd tL_law16 10 rfl) (by decide) ?_
  exact w_widen (by omega) (by omega) (kk p11.1 p12.1 _)
def zS_16 (xs : Nat → Int32) (i : Int) (vC vM vC' vM' : zHp) : Prop := ∃ r, fX11_dayPay vC (zar xs i 1) (zar xs i 2) = some (vC', r) ∧ fX12_dayPay vM (zar xs i 1) (zar xs i 2) = some (vM', r)
set_option maxRecDepth 100000 in
set_option maxHeartbeats 4000000 in
theorem s_16 (L : zLC E idJ qa sa N xs ad adV) (hi : 0 ≤ i ∧ i + 5 < (N : Int)) {vC' vM' : zHp} (hvC : zV 0 137 vC) (hvM : zV 137 24 vM) (h : zS_16 xs i vC vM vC' vM') (hk : k + 260 ≤ 601024 ∧ n + 2080 ≤ 7293034) (kk : zV 0 137 vC' → zV 137 24 vM' → ∀ gO, zY E (k + 260) (n + 2080) (zLW (zEi E) idJ (zEb E) qa vC' vM' gO) 1272 (zlo sa qa i) []) : zY E k n (zLW (zEi E) idJ (zEb E) qa vC vM gO) 1022 (zlo sa qa i) [] := by
  obtain ⟨C, hKL, hZs, hTw, hRm, hN, hsT, hcov, hqa, hX, hNN⟩ := id L
  obtain ⟨r, h1, h2⟩ := h
  refine w_aload_n C (zd tL_law16 13 rfl) rfl ?_
  refine w_arg L ⟨by omega, by omega⟩ rfl rfl (zd tL_law16 14 rfl) (zd tL_law16 15 rfl) (zd tL_law16 16 rfl) (zd tL_law16 17 rfl) (zd tL_law16 18 rfl) ?_
  refine w_arg L ⟨by omega, by omega⟩ rfl rfl (zd tL_law16 19 rfl) (zd tL_law16 20 rfl) (zd tL_law16 21 rfl) (zd tL_law16 22 rfl) (zd tL_law16 23 rfl) ?_
  refine w_callV C (o := 0) (nw := 137)  hRm (A := []) (zAB_C hqa) (fun j _ => hcov _ (by omega)) (qX11_dayPay _ _ _ _ (zar_R _ _ _) (zar_R _ _ _) hvC h1) rfl (Nat.zero_le 0) (by decide) (by decide) rfl (zgV zwd_848 zwd_849 zwd_850 zwd_1 zwd_851) rfl pX11_dayPay rfl ⟨rfl, rfl⟩ ⟨Nat.le_of_ble_eq_true rfl, Nat.le_of_ble_eq_true rfl⟩ (k' := k) (n' := n) ⟨rfl, rfl⟩ ⟨by show _ ≤ 601024; omega, by show _ ≤ 7293034; omega⟩ [] rfl (Nat.le_of_ble_eq_true rfl) (zd tL_law16 24 rfl) [zi r] rfl (fun p11 => ?_)
  refine w_aload_n C (zd tL_law16 25 rfl) rfl ?_
  refine w_arg L ⟨by omega, by omega⟩ rfl rfl (zd tL_law16 26 rfl) (zd tL_law16 27 rfl) (zd tL_law16 28 rfl) (zd tL_law16 29 rfl) (zd tL_law16 30 rfl) ?_
  refine w_arg L ⟨by omega, by omega⟩ rfl rfl (zd tL_law16 31 rfl) (zd tL_law16 32 rfl) (zd tL_law16 33 rfl) (zd tL_law16 34 rfl) (zd tL_law16 35 rfl) ?_
  refine w_callV C (o := 137) (nw := 24)  hRm (A := zwl (zEi E) (zEb E) 0 137 vC') (zAB_M hqa) (fun j _ => hcov _ (by omega)) (qX12_dayPay _ _ _ _ (zar_R _ _ _) (zar_R _ _ _) hvM h2) rfl (Nat.le_refl 137) (by decide) (by decide) rfl (zgV zwd_1355 zwd_1356 zwd_1357 zwd_13 zwd_1358) rfl pX12_dayPay rfl ⟨rfl, rfl⟩ ⟨Nat.le_of_ble_eq_true rfl, Nat.le_of_ble_eq_true rfl⟩ (k' := k) (n' := n) ⟨rfl, rfl⟩ ⟨by show _ ≤ 601024; omega, by show _ ≤ 7293034; omega⟩ [zi r] rfl (Nat.le_of_ble_eq_true rfl) (zd tL_law16 36 rfl) [zi r, zi r] rfl (fun p12 => ?_)
  refine w_ieq (tgt := 1272) C p11.2 (zd tL_law16 37 rfl) (by decide) ?_
  exact w_widen (by omega) (by omega) (kk p11.1 p12.1 _)
def zS_17 (xs : Nat → Int32) (i : Int) (vC vM vC' vM' : zHp) : Prop := ∃ r, fX11_total vC  = some (vC', r) ∧ fX12_total vM  = some (vM', r)
set_option maxRecDepth 100000 in
set_option maxHeartbeats 4000000 in
theorem s_17 (L : zLC E idJ qa sa N xs ad adV) (hi : 0 ≤ i ∧ i + 5 < (N : Int)) {vC' vM' : zHp} (hvC : zV 0 137 vC) (hvM : zV 137 24 vM) (h : zS_17 xs i vC vM vC' vM') (hk : k + 260 ≤ 601024 ∧ n + 2080 ≤ 7293034) (kk : zV 0 137 vC' → zV 137 24 vM' → ∀ gO, zY E (k + 260) (n + 2080) (zLW (zEi E) idJ (zEb E) qa vC' vM' gO) 1272 (zlo sa qa i) []) : zY E k n (zLW (zEi E) idJ (zEb E) qa vC vM gO) 1059 (zlo sa qa i) [] := by
  obtain ⟨C, hKL, hZs, hTw, hRm, hN, hsT, hcov, hqa, hX, hNN⟩ := id L
  obtain ⟨r, h1, h2⟩ := h
  refine w_aload_n C (zd tL_law17 0 rfl) rfl ?_
  refine w_callV C (o := 0) (nw := 137)  hRm (A := []) (zAB_C hqa) (fun j _ => hcov _ (by omega)) (qX11_total _ _ _ _  hvC h1) rfl (Nat.zero_le 0) (by decide) (by decide) rfl (zgV zwd_852 zwd_853 zwd_854 zwd_1 zwd_855) rfl pX11_total rfl ⟨rfl, rfl⟩ ⟨Nat.le_of_ble_eq_true rfl, Nat.le_of_ble_eq_true rfl⟩ (k' := k) (n' := n) ⟨rfl, rfl⟩ ⟨by show _ ≤ 601024; omega, by show _ ≤ 7293034; omega⟩ [] rfl (Nat.le_of_ble_eq_true rfl) (zd tL_law17 1 rfl) [zi r] rfl (fun p11 => ?_)
  refine w_aload_n C (zd tL_law17 2 rfl) rfl ?_
  refine w_callV C (o := 137) (nw := 24)  hRm (A := zwl (zEi E) (zEb E) 0 137 vC') (zAB_M hqa) (fun j _ => hcov _ (by omega)) (qX12_total _ _ _ _  hvM h2) rfl (Nat.le_refl 137) (by decide) (by decide) rfl (zgV zwd_1359 zwd_1360 zwd_1361 zwd_13 zwd_1362) rfl pX12_total rfl ⟨rfl, rfl⟩ ⟨Nat.le_of_ble_eq_true rfl, Nat.le_of_ble_eq_true rfl⟩ (k' := k) (n' := n) ⟨rfl, rfl⟩ ⟨by show _ ≤ 601024; omega, by show _ ≤ 7293034; omega⟩ [zi r] rfl (Nat.le_of_ble_eq_true rfl) (zd tL_law17 3 rfl) [zi r, zi r] rfl (fun p12 => ?_)
  refine w_ieq (tgt := 1272) C p11.2 (zd tL_law17 4 rfl) (by decide) ?_
  exact w_widen (by omega) (by omega) (kk p11.1 p12.1 _)
def zS_18 (xs : Nat → Int32) (i : Int) (vC vM vC' vM' : zHp) : Prop := ∃ r, fX11_would vC (zar xs i 1) (zar xs i 2) (zar xs i 3) (zar xs i 4) (zbo (zar xs i 5)) = some (vC', r) ∧ fX12_would vM (zar xs i 1) (zar xs i 2) (zar xs i 3) (zar xs i 4) (zbo (zar xs i 5)) = some (vM', r)
set_option maxRecDepth 100000 in
set_option maxHeartbeats 4000000 in
theorem s_18 (L : zLC E idJ qa sa N xs ad adV) (hi : 0 ≤ i ∧ i + 5 < (N : Int)) {vC' vM' : zHp} (hvC : zV 0 137 vC) (hvM : zV 137 24 vM) (h : zS_18 xs i vC vM vC' vM') (hk : k + 260 ≤ 601024 ∧ n + 2080 ≤ 7293034) (kk : zV 0 137 vC' → zV 137 24 vM' → ∀ gO, zY E (k + 260) (n + 2080) (zLW (zEi E) idJ (zEb E) qa vC' vM' gO) 1272 (zlo sa qa i) []) : zY E k n (zLW (zEi E) idJ (zEb E) qa vC vM gO) 1072 (zlo sa qa i) [] := by
  obtain ⟨C, hKL, hZs, hTw, hRm, hN, hsT, hcov, hqa, hX, hNN⟩ := id L
  obtain ⟨r, h1, h2⟩ := h
  refine w_aload_n C (zd tL_law17 7 rfl) rfl ?_
  refine w_arg L ⟨by omega, by omega⟩ rfl rfl (zd tL_law17 8 rfl) (zd tL_law17 9 rfl) (zd tL_law17 10 rfl) (zd tL_law17 11 rfl) (zd tL_law17 12 rfl) ?_
  refine w_arg L ⟨by omega, by omega⟩ rfl rfl (zd tL_law17 13 rfl) (zd tL_law17 14 rfl) (zd tL_law17 15 rfl) (zd tL_law17 16 rfl) (zd tL_law17 17 rfl) ?_
  refine w_arg L ⟨by omega, by omega⟩ rfl rfl (zd tL_law17 18 rfl) (zd tL_law17 19 rfl) (zd tL_law17 20 rfl) (zd tL_law17 21 rfl) (zd tL_law17 22 rfl) ?_
  refine w_arg L ⟨by omega, by omega⟩ rfl rfl (zd tL_law17 23 rfl) (zd tL_law17 24 rfl) (zd tL_law17 25 rfl) (zd tL_law17 26 rfl) (zd tL_law17 27 rfl) ?_
  refine w_arg L ⟨by omega, by omega⟩ rfl rfl (zd tL_law17 28 rfl) (zd tL_law17 29 rfl) (zd tL_law17 30 rfl) (zd tL_law17 31 rfl) (zd tL_law17 32 rfl) ?_
  refine w_bool L (zar_R _ _ _) (zd tL_law17 33 rfl) (zd tL_law17 34 rfl) (zd tL_law17 35 rfl) (zd tL_law17 36 rfl) ?_
  refine w_callV C (o := 0) (nw := 137)  hRm (A := []) (zAB_C hqa) (fun j _ => hcov _ (by omega)) (qX11_would _ _ _ _ (zar_R _ _ _) (zar_R _ _ _) (zar_R _ _ _) (zar_R _ _ _) (zbo_R _) hvC h1) rfl (Nat.zero_le 0) (by decide) (by decide) rfl (zgV zwd_860 zwd_861 zwd_862 zwd_1 zwd_863) rfl pX11_would rfl ⟨rfl, rfl⟩ ⟨Nat.le_of_ble_eq_true rfl, Nat.le_of_ble_eq_true rfl⟩ (k' := k) (n' := n) ⟨rfl, rfl⟩ ⟨by show _ ≤ 601024; omega, by show _ ≤ 7293034; omega⟩ [] rfl (Nat.le_of_ble_eq_true rfl) (zd tL_law17 37 rfl) [zi r] rfl (fun p11 => ?_)
  refine w_aload_n C (zd tL_law17 38 rfl) rfl ?_
  refine w_arg L ⟨by omega, by omega⟩ rfl rfl (zd tL_law17 39 rfl) (zd tL_law18 0 rfl) (zd tL_law18 1 rfl) (zd tL_law18 2 rfl) (zd tL_law18 3 rfl) ?_
  refine w_arg L ⟨by omega, by omega⟩ rfl rfl (zd tL_law18 4 rfl) (zd tL_law18 5 rfl) (zd tL_law18 6 rfl) (zd tL_law18 7 rfl) (zd tL_law18 8 rfl) ?_
  refine w_arg L ⟨by omega, by omega⟩ rfl rfl (zd tL_law18 9 rfl) (zd tL_law18 10 rfl) (zd tL_law18 11 rfl) (zd tL_law18 12 rfl) (zd tL_law18 13 rfl) ?_
  refine w_arg L ⟨by omega, by omega⟩ rfl rfl (zd tL_law18 14 rfl) (zd tL_law18 15 rfl) (zd tL_law18 16 rfl) (zd tL_law18 17 rfl) (zd tL_law18 18 rfl) ?_
  refine w_arg L ⟨by omega, by omega⟩ rfl rfl (zd tL_law18 19 rfl) (zd tL_law18 20 rfl) (zd tL_law18 21 rfl) (zd tL_law18 22 rfl) (zd tL_law18 23 rfl) ?_
  refine w_bool L (zar_R _ _ _) (zd tL_law18 24 rfl) (zd tL_law18 25 rfl) (zd tL_law18 26 rfl) (zd tL_law18 27 rfl) ?_
  refine w_callV C (o := 137) (nw := 24)  hRm (A := zwl (zEi E) (zEb E) 0 137 vC') (zAB_M hqa) (fun j _ => hcov _ (by omega)) (qX12_would _ _ _ _ (zar_R _ _ _) (zar_R _ _ _) (zar_R _ _ _) (zar_R _ _ _) (zbo_R _) hvM h2) rfl (Nat.le_refl 137) (by decide) (by decide) rfl (zgV zwd_1371 zwd_1372 zwd_1373 zwd_13 zwd_1374) rfl pX12_would rfl ⟨rfl, rfl⟩ ⟨Nat.le_of_ble_eq_true rfl, Nat.le_of_ble_eq_true rfl⟩ (k' := k) (n' := n) ⟨rfl, rfl⟩ ⟨by show _ ≤ 601024; omega, by show _ ≤ 7293034; omega⟩ [zi r] rfl (Nat.le_of_ble_eq_true rfl) (zd tL_law18 28 rfl) [zi r, zi r] rfl (fun p12 => ?_)
  refine w_ieq (tgt := 1272) C p11.2 (zd tL_law18 29 rfl) (by decide) ?_
  exact w_widen (by omega) (by omega) (kk p11.1 p12.1 _)
def zS_19 (xs : Nat → Int32) (i : Int) (vC vM vC' vM' : zHp) : Prop := ∃ r, fX11_dearest vC (zar xs i 1) (zar xs i 2) (zar xs i 3) = some (vC', r) ∧ fX12_dearest vM (zar xs i 1) (zar xs i 2) (zar xs i 3) = some (vM', r)
set_option maxRecDepth 100000 in
set_option maxHeartbeats 4000000 in
theorem s_19 (L : zLC E idJ qa sa N xs ad adV) (hi : 0 ≤ i ∧ i + 5 < (N : Int)) {vC' vM' : zHp} (hvC : zV 0 137 vC) (hvM : zV 137 24 vM) (h : zS_19 xs i vC vM vC' vM') (hk : k + 260 ≤ 601024 ∧ n + 2080 ≤ 7293034) (kk : zV 0 137 vC' → zV 137 24 vM' → ∀ gO, zY E (k + 260) (n + 2080) (zLW (zEi E) idJ (zEb E) qa vC' vM' gO) 1272 (zlo sa qa i) []) : zY E k n (zLW (zEi E) idJ (zEb E) qa vC vM gO) 1161 (zlo sa qa i) [] := by
  obtain ⟨C, hKL, hZs, hTw, hRm, hN, hsT, hcov, hqa, hX, hNN⟩ := id L
  obtain ⟨r, h1, h2⟩ := h
  refine w_aload_n C (zd tL_law18 32 rfl) rfl ?_
  refine w_arg L ⟨by omega, by omega⟩ rfl rfl (zd tL_law18 33 rfl) (zd tL_law18 34 rfl) (zd tL_law18 35 rfl) (zd tL_law18 36 rfl) (zd tL_law18 37 rfl) ?_
  refine w_arg L ⟨by omega, by omega⟩ rfl rfl (zd tL_law18 38 rfl) (zd tL_law18 39 rfl) (zd tL_law19 0 rfl) (zd tL_law19 1 rfl) (zd tL_law19 2 rfl) ?_
  refine w_arg L ⟨by omega, by omega⟩ rfl rfl (zd tL_law19 3 rfl) (zd tL_law19 4 rfl) (zd tL_law19 5 rfl) (zd tL_law19 6 rfl) (zd tL_law19 7 rfl) ?_
  refine w_callV C (o := 0) (nw := 137)  hRm (A := []) (zAB_C hqa) (fun j _ => hcov _ (by omega)) (qX11_dearest _ _ _ _ (zar_R _ _ _) (zar_R _ _ _) (zar_R _ _ _) hvC h1) rfl (Nat.zero_le 0) (by decide) (by decide) rfl (zgV zwd_873 zwd_874 zwd_875 zwd_1 zwd_876) rfl pX11_dearest rfl ⟨rfl, rfl⟩ ⟨Nat.le_of_ble_eq_true rfl, Nat.le_of_ble_eq_true rfl⟩ (k' := k) (n' := n) ⟨rfl, rfl⟩ ⟨by show _ ≤ 601024; omega, by show _ ≤ 7293034; omega⟩ [] rfl (Nat.le_of_ble_eq_true rfl) (zd tL_law19 8 rfl) [zi r] rfl (fun p11 => ?_)
  refine w_aload_n C (zd tL_law19 9 rfl) rfl ?_
  refine w_arg L ⟨by omega, by omega⟩ rfl rfl (zd tL_law19 10 rfl) (zd tL_law19 11 rfl) (zd tL_law19 12 rfl) (zd tL_law19 13 rfl) (zd tL_law19 14 rfl) ?_
  refine w_arg L ⟨by omega, by omega⟩ rfl rfl (zd tL_law19 15 rfl) (zd tL_law19 16 rfl) (zd tL_law19 17 rfl) (zd tL_law19 18 rfl) (zd tL_law19 19 rfl) ?_
  refine w_arg L ⟨by omega, by omega⟩ rfl rfl (zd tL_law19 20 rfl) (zd tL_law19 21 rfl) (zd tL_law19 22 rfl) (zd tL_law19 23 rfl) (zd tL_law19 24 rfl) ?_
  refine w_callV C (o := 137) (nw := 24)  hRm (A := zwl (zEi E) (zEb E) 0 137 vC') (zAB_M hqa) (fun j _ => hcov _ (by omega)) (qX12_dearest _ _ _ _ (zar_R _ _ _) (zar_R _ _ _) (zar_R _ _ _) hvM h2) rfl (Nat.le_refl 137) (by decide) (by decide) rfl (zgV zwd_1376 zwd_1377 zwd_1378 zwd_13 zwd_1379) rfl pX12_dearest rfl ⟨rfl, rfl⟩ ⟨Nat.le_of_ble_eq_true rfl, Nat.le_of_ble_eq_true rfl⟩ (k' := k) (n' := n) ⟨rfl, rfl⟩ ⟨by show _ ≤ 601024; omega, by show _ ≤ 7293034; omega⟩ [zi r] rfl (Nat.le_of_ble_eq_true rfl) (zd tL_law19 25 rfl) [zi r, zi r] rfl (fun p12 => ?_)
  refine w_ieq (tgt := 1272) C p11.2 (zd tL_law19 26 rfl) (by decide) ?_
  exact w_widen (by omega) (by omega) (kk p11.1 p12.1 _)
def zS_20 (xs : Nat → Int32) (i : Int) (vC vM vC' vM' : zHp) : Prop := ∃ r, fX11_worth vC (zar xs i 1) = some (vC', r) ∧ fX12_worth vM (zar xs i 1) = some (vM', r)
set_option maxRecDepth 100000 in
set_option maxHeartbeats 4000000 in
theorem s_20 (L : zLC E idJ qa sa N xs ad adV) (hi : 0 ≤ i ∧ i + 5 < (N : Int)) {vC' vM' : zHp} (hvC : zV 0 137 vC) (hvM : zV 137 24 vM) (h : zS_20 xs i vC vM vC' vM') (hk : k + 260 ≤ 601024 ∧ n + 2080 ≤ 7293034) (kk : zV 0 137 vC' → zV 137 24 vM' → ∀ gO, zY E (k + 260) (n + 2080) (zLW (zEi E) idJ (zEb E) qa vC' vM' gO) 1272 (zlo sa qa i) []) : zY E k n (zLW (zEi E) idJ (zEb E) qa vC vM gO) 1210 (zlo sa qa i) [] := by
  obtain ⟨C, hKL, hZs, hTw, hRm, hN, hsT, hcov, hqa, hX, hNN⟩ := id L
  obtain ⟨r, h1, h2⟩ := h
  refine w_aload_n C (zd tL_law19 29 rfl) rfl ?_
  refine w_arg L ⟨by omega, by omega⟩ rfl rfl (zd tL_law19 30 rfl) (zd tL_law19 31 rfl) (zd tL_law19 32 rfl) (zd tL_law19 33 rfl) (zd tL_law19 34 rfl) ?_
  refine w_callV C (o := 0) (nw := 137)  hRm (A := []) (zAB_C hqa) (fun j _ => hcov _ (by omega)) (qX11_worth _ _ _ _ (zar_R _ _ _) hvC h1) rfl (Nat.zero_le 0) (by decide) (by decide) rfl (zgV zwd_877 zwd_878 zwd_879 zwd_1 zwd_880) rfl pX11_worth rfl ⟨rfl, rfl⟩ ⟨Nat.le_of_ble_eq_true rfl, Nat.le_of_ble_eq_true rfl⟩ (k' := k) (n' := n) ⟨rfl, rfl⟩ ⟨by show _ ≤ 601024; omega, by show _ ≤ 7293034; omega⟩ [] rfl (Nat.le_of_ble_eq_true rfl) (zd tL_law19 35 rfl) [zi r] rfl (fun p11 => ?_)
  refine w_aload_n C (zd tL_law19 36 rfl) rfl ?_
  refine w_arg L ⟨by omega, by omega⟩ rfl rfl (zd tL_law19 37 rfl) (zd tL_law19 38 rfl) (zd tL_law19 39 rfl) (zd tL_law20 0 rfl) (zd tL_law20 1 rfl) ?_
  refine w_callV C (o := 137) (nw := 24)  hRm (A := zwl (zEi E) (zEb E) 0 137 vC') (zAB_M hqa) (fun j _ => hcov _ (by omega)) (qX12_worth _ _ _ _ (zar_R _ _ _) hvM h2) rfl (Nat.le_refl 137) (by decide) (by decide) rfl (zgV zwd_1395 zwd_1396 zwd_1397 zwd_13 zwd_1398) rfl pX12_worth rfl ⟨rfl, rfl⟩ ⟨Nat.le_of_ble_eq_true rfl, Nat.le_of_ble_eq_true rfl⟩ (k' := k) (n' := n) ⟨rfl, rfl⟩ ⟨by show _ ≤ 601024; omega, by show _ ≤ 7293034; omega⟩ [zi r] rfl (Nat.le_of_ble_eq_true rfl) (zd tL_law20 2 rfl) [zi r, zi r] rfl (fun p12 => ?_)
  refine w_ieq (tgt := 1272) C p11.2 (zd tL_law20 3 rfl) (by decide) ?_
  exact w_widen (by omega) (by omega) (kk p11.1 p12.1 _)
def zS_21 (xs : Nat → Int32) (i : Int) (vC vM vC' vM' : zHp) : Prop := ∃ r, fX11_together vC (zar xs i 1) (zar xs i 2) = some (vC', r) ∧ fX12_together vM (zar xs i 1) (zar xs i 2) = some (vM', r)
set_option maxRecDepth 100000 in
set_option maxHeartbeats 4000000 in
theorem s_21 (L : zLC E idJ qa sa N xs ad adV) (hi : 0 ≤ i ∧ i + 5 < (N : Int)) {vC' vM' : zHp} (hvC : zV 0 137 vC) (hvM : zV 137 24 vM) (h : zS_21 xs i vC vM vC' vM') (hk : k + 260 ≤ 601024 ∧ n + 2080 ≤ 7293034) (kk : zV 0 137 vC' → zV 137 24 vM' → ∀ gO, zY E (k + 260) (n + 2080) (zLW (zEi E) idJ (zEb E) qa vC' vM' gO) 1272 (zlo sa qa i) []) : zY E k n (zLW (zEi E) idJ (zEb E) qa vC vM gO) 1235 (zlo sa qa i) [] := by
  obtain ⟨C, hKL, hZs, hTw, hRm, hN, hsT, hcov, hqa, hX, hNN⟩ := id L
  obtain ⟨r, h1, h2⟩ := h
  refine w_aload_n C (zd tL_law20 6 rfl) rfl ?_
  refine w_arg L ⟨by omega, by omega⟩ rfl rfl (zd tL_law20 7 rfl) (zd tL_law20 8 rfl) (zd tL_law20 9 rfl) (zd tL_law20 10 rfl) (zd tL_law20 11 rfl) ?_
  refine w_arg L ⟨by omega, by omega⟩ rfl rfl (zd tL_law20 12 rfl) (zd tL_law20 13 rfl) (zd tL_law20 14 rfl) (zd tL_law20 15 rfl) (zd tL_law20 16 rfl) ?_
  refine w_callV C (o := 0) (nw := 137)  hRm (A := []) (zAB_C hqa) (fun j _ => hcov _ (by omega)) (qX11_together _ _ _ _ (zar_R _ _ _) (zar_R _ _ _) hvC h1) rfl (Nat.zero_le 0) (by decide) (by decide) rfl (zgV zwd_882 zwd_883 zwd_884 zwd_1 zwd_885) rfl pX11_together rfl ⟨rfl, rfl⟩ ⟨Nat.le_of_ble_eq_true rfl, Nat.le_of_ble_eq_true rfl⟩ (k' := k) (n' := n) ⟨rfl, rfl⟩ ⟨by show _ ≤ 601024; omega, by show _ ≤ 7293034; omega⟩ [] rfl (Nat.le_of_ble_eq_true rfl) (zd tL_law20 17 rfl) [zi r] rfl (fun p11 => ?_)
  refine w_aload_n C (zd tL_law20 18 rfl) rfl ?_
  refine w_arg L ⟨by omega, by omega⟩ rfl rfl (zd tL_law20 19 rfl) (zd tL_law20 20 rfl) (zd tL_law20 21 rfl) (zd tL_law20 22 rfl) (zd tL_law20 23 rfl) ?_
  refine w_arg L ⟨by omega, by omega⟩ rfl rfl (zd tL_law20 24 rfl) (zd tL_law20 25 rfl) (zd tL_law20 26 rfl) (zd tL_law20 27 rfl) (zd tL_law20 28 rfl) ?_
  refine w_callV C (o := 137) (nw := 24)  hRm (A := zwl (zEi E) (zEb E) 0 137 vC') (zAB_M hqa) (fun j _ => hcov _ (by omega)) (qX12_together _ _ _ _ (zar_R _ _ _) (zar_R _ _ _) hvM h2) rfl (Nat.le_refl 137) (by decide) (by decide) rfl (zgV zwd_1399 zwd_1400 zwd_1401 zwd_13 zwd_1402) rfl pX12_together rfl ⟨rfl, rfl⟩ ⟨Nat.le_of_ble_eq_true rfl, Nat.le_of_ble_eq_true rfl⟩ (k' := k) (n' := n) ⟨rfl, rfl⟩ ⟨by show _ ≤ 601024; omega, by show _ ≤ 7293034; omega⟩ [zi r] rfl (Nat.le_of_ble_eq_true rfl) (zd tL_law20 29 rfl) [zi r, zi r] rfl (fun p12 => ?_)
  refine w_ieq (tgt := 1272) C p11.2 (zd tL_law20 30 rfl) (by decide) ?_
  exact w_widen (by omega) (by omega) (kk p11.1 p12.1 _)
theorem zgSW {x : Cond} {own : String} {idx mL : Nat} {y : MethodName} {c : ByteArray} {r : Option FieldType} {hh : List (Nat × Nat × Nat × Nat)} (h1 : Cond.methodLink own idx y ∈ zbig) (h2 : Cond.static y ∈ zbig) (h4 : Cond.initialized y.cls ∈ zbig) (h5 : Cond.codeWith y c mL r hh ∈ zbig) : GoodIn (x :: zbig) (va_wsS own idx y (.codeWith y c mL r hh :: zbig)) := by
  intro w hw
  have hb : w ∈ zbig := by
    simp only [va_wsS, List.cons_append, List.nil_append, List.mem_cons] at hw
    rcases hw with rfl | rfl | rfl | rfl | h
    · exact h1
    · exact h2
    · exact h4
    · exact h5
    · exact h
  exact ⟨List.mem_cons_of_mem _ hb, zgoodw hb⟩
theorem pL_premium : yL_premium.cls ≠ "java/lang/invoke/MethodHandle" ∧ yL_premium.cls ≠ "java/lang/invoke/VarHandle" ∧ (parseMethodDescriptor yL_premium.desc).map (fun d => d.parameters.length) = some 4 := by decide +kernel
theorem pL_quarter : yL_quarter.cls ≠ "java/lang/invoke/MethodHandle" ∧ yL_quarter.cls ≠ "java/lang/invoke/VarHandle" ∧ (parseMethodDescriptor yL_quarter.desc).map (fun d => d.parameters.length) = some 5 := by decide +kernel
def zS_3 (xs : Nat → Int32) (i : Int) (vC vM vC' vM' : zHp) : Prop := ∃ (r : Int) (vM1 : zHp), (fX11_premium vC (zar xs i 1) (zar xs i 2) = some (vC', r) ∧ fX12_premium vM (zar xs i 1) (zar xs i 2) = some (vM1, r) ∧ fX12_thrown vM1 = some (vM', 0)) ∨ (eX11_premium vC (zar xs i 1) (zar xs i 2) = some (vC', 0) ∧ fX12_premium vM (zar xs i 1) (zar xs i 2) = some (vM1, r) ∧ fX12_thrown vM1 = some (vM', 1))
set_option maxRecDepth 100000 in
set_option maxHeartbeats 4000000 in
theorem s_3 (L : zLC E idJ qa sa N xs ad adV) (hi : 0 ≤ i ∧ i + 5 < (N : Int)) {vC' vM' : zHp} (hvC : zV 0 137 vC) (hvM : zV 137 24 vM) (h : zS_3 xs i vC vM vC' vM') (hk : k + 260 ≤ 601024 ∧ n + 2080 ≤ 7293034) (kk : zV 0 137 vC' → zV 137 24 vM' → ∀ gO, zY E (k + 260) (n + 2080) (zLW (zEi E) idJ (zEb E) qa vC' vM' gO) 1272 (zlo sa qa i) []) : zY E k n (zLW (zEi E) idJ (zEb E) qa vC vM gO) 267 (zlo sa qa i) [] := by
  obtain ⟨C, hKL, hZs, hTw, hRm, hN, hsT, hcov, hqa, hX, hNN⟩ := id L
  obtain ⟨r, vM1, h⟩ := h
  rcases h with h | h
  · obtain ⟨h1, h2, h3⟩ := h
    refine w_aload_n C (zd tL_law2 36 rfl) rfl ?_
    refine w_arg L ⟨by omega, by omega⟩ rfl rfl (zd tL_law2 37 rfl) (zd tL_law2 38 rfl) (zd tL_law2 39 rfl) (zd tL_law3 0 rfl) (zd tL_law3 1 rfl) ?_
    refine w_arg L ⟨by omega, by omega⟩ rfl rfl (zd tL_law3 2 rfl) (zd tL_law3 3 rfl) (zd tL_law3 4 rfl) (zd tL_law3 5 rfl) (zd tL_law3 6 rfl) ?_
    refine w_aloadS_n C (zd tL_law3 7 rfl) rfl ?_
    refine w_callL L (qL_premium _ _ _ _ _ _ _ (zar_R _ _ _) (zar_R _ _ _) hvC h1) (zgSW zwd_886 zwd_887 zwd_0 (zt4 168 rfl rfl)) rfl pL_premium rfl ⟨rfl, rfl⟩ ⟨Nat.le_of_ble_eq_true rfl, Nat.le_of_ble_eq_true rfl⟩ (k' := k) (n' := n) ⟨rfl, rfl⟩ ⟨by show _ ≤ 601024; omega, by show _ ≤ 7293034; omega⟩ [] rfl (Nat.le_of_ble_eq_true rfl) (zd tL_law3 8 rfl) (fun pC => ?_)
    refine w_istore C (zd tL_law3 9 rfl) (by rw [hN]; decide) ?_
    refine w_aload_n C (zd tL_law3 10 rfl) rfl ?_
    refine w_arg L ⟨by omega, by omega⟩ rfl rfl (zd tL_law3 11 rfl) (zd tL_law3 12 rfl) (zd tL_law3 13 rfl) (zd tL_law3 14 rfl) (zd tL_law3 15 rfl) ?_
    refine w_arg L ⟨by omega, by omega⟩ rfl rfl (zd tL_law3 16 rfl) (zd tL_law3 17 rfl) (zd tL_law3 18 rfl) (zd tL_law3 19 rfl) (zd tL_law3 20 rfl) ?_
    refine w_callV C (o := 137) (nw := 24) hRm (A := zwl (zEi E) (zEb E) 0 137 vC') (zAB_M hqa) (fun j _ => hcov _ (by omega)) (qX12_premium _ _ _ _ (zar_R _ _ _) (zar_R _ _ _) hvM h2) rfl (Nat.le_refl 137) (by decide) (by decide) rfl (zgV zwd_1169 zwd_1170 zwd_1171 zwd_13 zwd_1172) rfl pX12_premium rfl ⟨rfl, rfl⟩ ⟨Nat.le_of_ble_eq_true rfl, Nat.le_of_ble_eq_true rfl⟩ (k' := k) (n' := n) ⟨rfl, rfl⟩ ⟨by show _ ≤ 601024; omega, by show _ ≤ 7293034; omega⟩ [] rfl (Nat.le_of_ble_eq_true rfl) (zd tL_law3 21 rfl) [zi r] rfl (fun pM => ?_)
    refine w_istore C (zd tL_law3 22 rfl) (by rw [hN]; decide) ?_
    refine w_aload_n C (zd tL_law3 23 rfl) rfl ?_
    refine w_callV C (o := 137) (nw := 24) hRm (A := zwl (zEi E) (zEb E) 0 137 vC') (zAB_M hqa) (fun j _ => hcov _ (by omega)) (qX12_thrown _ _ _ _  pM.1 h3) rfl (Nat.le_refl 137) (by decide) (by decide) rfl (zgV zwd_963 zwd_964 zwd_965 zwd_13 zwd_966) rfl pX12_thrown rfl ⟨rfl, rfl⟩ ⟨Nat.le_of_ble_eq_true rfl, Nat.le_of_ble_eq_true rfl⟩ (k' := k) (n' := n) ⟨rfl, rfl⟩ ⟨by show _ ≤ 601024; omega, by show _ ≤ 7293034; omega⟩ [] rfl (Nat.le_of_ble_eq_true rfl) (zd tL_law3 24 rfl) [zi 0] rfl (fun pT => ?_)
    refine w_iload C (zd tL_law3 25 rfl) rfl ?_
    refine w_ieq (tgt := 315) C pT.2 (zd tL_law3 26 rfl) (by decide) ?_
    refine w_iload C (zd tL_law3 29 rfl) rfl ?_
    refine w_if_ne (tgt := 332) C (zR_c 0 rfl) (zd tL_law3 30 rfl) (by decide) (X := none) (Y := some ()) (res := ()) (by rw [if_neg (by decide)]) (fun e => by cases e) (fun _ => ?_)
    refine w_aloadS_n C (zd tL_law3 31 rfl) rfl ?_
    refine w_iconst C (zd tL_law3 32 rfl) ?_
    refine w_lsame C hKL (t0 := 6) rfl (q := 161) (a := qa) zLW_out (x := r) (i := 6) pk_uLs rfl (zd tL_law3 33 rfl) (zd tL_law3 34 rfl) (zd tL_law3 35 rfl) (zd tL_law3 36 rfl) ?_
    refine w_if_eq (tgt := 332) C (zR_c 0 rfl) (zd tL_law3 37 rfl) (by decide) (X := some ()) (Y := none) (res := ()) (by rw [if_pos rfl]) (fun _ => ?_) (fun e => by cases e)
    refine w_goto (tgt := 1272) C (zd tL_law4 0 rfl) (by decide) ?_
    refine w_sub (lo' := zlo sa qa i) (zsub_s (zsub_s (zsub_s (zsub_s (zsub_s (zsub_n (zsub_n zsub_0))))))) ?_
    exact w_widen (by omega) (by omega) (kk pC pT.1 _)
  · obtain ⟨h1, h2, h3⟩ := h
    refine w_aload_n C (zd tL_law2 36 rfl) rfl ?_
    refine w_arg L ⟨by omega, by omega⟩ rfl rfl (zd tL_law2 37 rfl) (zd tL_law2 38 rfl) (zd tL_law2 39 rfl) (zd tL_law3 0 rfl) (zd tL_law3 1 rfl) ?_
    refine w_arg L ⟨by omega, by omega⟩ rfl rfl (zd tL_law3 2 rfl) (zd tL_law3 3 rfl) (zd tL_law3 4 rfl) (zd tL_law3 5 rfl) (zd tL_law3 6 rfl) ?_
    refine w_aloadS_n C (zd tL_law3 7 rfl) rfl ?_
    refine w_callL L (xL_premium _ _ _ _ _ _ _ (zar_R _ _ _) (zar_R _ _ _) hsT hvC h1) (zgSW zwd_886 zwd_887 zwd_0 (zt4 168 rfl rfl)) rfl pL_premium rfl ⟨rfl, rfl⟩ ⟨Nat.le_of_ble_eq_true rfl, Nat.le_of_ble_eq_true rfl⟩ (k' := k + 1) (n' := n + 6) ⟨rfl, rfl⟩ ⟨by show _ ≤ 601024; omega, by show _ ≤ 7293034; omega⟩ [] rfl (Nat.le_of_ble_eq_true rfl) (zd tL_law3 8 rfl) (fun pC => ?_)
    refine w_istore C (zd tL_law3 9 rfl) (by rw [hN]; decide) ?_
    refine w_aload_n C (zd tL_law3 10 rfl) rfl ?_
    refine w_arg L ⟨by omega, by omega⟩ rfl rfl (zd tL_law3 11 rfl) (zd tL_law3 12 rfl) (zd tL_law3 13 rfl) (zd tL_law3 14 rfl) (zd tL_law3 15 rfl) ?_
    refine w_arg L ⟨by omega, by omega⟩ rfl rfl (zd tL_law3 16 rfl) (zd tL_law3 17 rfl) (zd tL_law3 18 rfl) (zd tL_law3 19 rfl) (zd tL_law3 20 rfl) ?_
    refine w_callV C (o := 137) (nw := 24) hRm (A := zwl (zEi E) (zEb E) 0 137 vC') (zAB_M hqa) (fun j _ => hcov _ (by omega)) (qX12_premium _ _ _ _ (zar_R _ _ _) (zar_R _ _ _) hvM h2) rfl (Nat.le_refl 137) (by decide) (by decide) rfl (zgV zwd_1169 zwd_1170 zwd_1171 zwd_13 zwd_1172) rfl pX12_premium rfl ⟨rfl, rfl⟩ ⟨Nat.le_of_ble_eq_true rfl, Nat.le_of_ble_eq_true rfl⟩ (k' := k + 1) (n' := n + 6) ⟨rfl, rfl⟩ ⟨by show _ ≤ 601024; omega, by show _ ≤ 7293034; omega⟩ [] rfl (Nat.le_of_ble_eq_true rfl) (zd tL_law3 21 rfl) [zi r] rfl (fun pM => ?_)
    refine w_istore C (zd tL_law3 22 rfl) (by rw [hN]; decide) ?_
    refine w_aload_n C (zd tL_law3 23 rfl) rfl ?_
    refine w_callV C (o := 137) (nw := 24) hRm (A := zwl (zEi E) (zEb E) 0 137 vC') (zAB_M hqa) (fun j _ => hcov _ (by omega)) (qX12_thrown _ _ _ _  pM.1 h3) rfl (Nat.le_refl 137) (by decide) (by decide) rfl (zgV zwd_963 zwd_964 zwd_965 zwd_13 zwd_966) rfl pX12_thrown rfl ⟨rfl, rfl⟩ ⟨Nat.le_of_ble_eq_true rfl, Nat.le_of_ble_eq_true rfl⟩ (k' := k + 1) (n' := n + 6) ⟨rfl, rfl⟩ ⟨by show _ ≤ 601024; omega, by show _ ≤ 7293034; omega⟩ [] rfl (Nat.le_of_ble_eq_true rfl) (zd tL_law3 24 rfl) [zi 1] rfl (fun pT => ?_)
    refine w_iload C (zd tL_law3 25 rfl) rfl ?_
    refine w_ieq (tgt := 315) C pT.2 (zd tL_law3 26 rfl) (by decide) ?_
    refine w_iload C (zd tL_law3 29 rfl) rfl ?_
    refine w_if_ne (tgt := 332) C (zR_c 1 rfl) (zd tL_law3 30 rfl) (by decide) (X := some ()) (Y := none) (res := ()) (by rw [if_pos (by decide)]) (fun _ => ?_) (fun e => by cases e)
    refine w_goto (tgt := 1272) C (zd tL_law4 0 rfl) (by decide) ?_
    refine w_sub (lo' := zlo sa qa i) (zsub_s (zsub_s (zsub_s (zsub_s (zsub_s (zsub_n (zsub_n zsub_0))))))) ?_
    exact w_widen (by omega) (by omega) (kk pC pT.1 _)
def zS_11 (xs : Nat → Int32) (i : Int) (vC vM vC' vM' : zHp) : Prop := ∃ (r : Int) (vM1 : zHp), (fX11_quarter vC (zar xs i 1) (zar xs i 2) (zar xs i 3) = some (vC', r) ∧ fX12_quarter vM (zar xs i 1) (zar xs i 2) (zar xs i 3) = some (vM1, r) ∧ fX12_thrown vM1 = some (vM', 0)) ∨ (eX11_quarter vC (zar xs i 1) (zar xs i 2) (zar xs i 3) = some (vC', 0) ∧ fX12_quarter vM (zar xs i 1) (zar xs i 2) (zar xs i 3) = some (vM1, r) ∧ fX12_thrown vM1 = some (vM', 1))
set_option maxRecDepth 100000 in
set_option maxHeartbeats 4000000 in
theorem s_11 (L : zLC E idJ qa sa N xs ad adV) (hi : 0 ≤ i ∧ i + 5 < (N : Int)) {vC' vM' : zHp} (hvC : zV 0 137 vC) (hvM : zV 137 24 vM) (h : zS_11 xs i vC vM vC' vM') (hk : k + 260 ≤ 601024 ∧ n + 2080 ≤ 7293034) (kk : zV 0 137 vC' → zV 137 24 vM' → ∀ gO, zY E (k + 260) (n + 2080) (zLW (zEi E) idJ (zEb E) qa vC' vM' gO) 1272 (zlo sa qa i) []) : zY E k n (zLW (zEi E) idJ (zEb E) qa vC vM gO) 714 (zlo sa qa i) [] := by
  obtain ⟨C, hKL, hZs, hTw, hRm, hN, hsT, hcov, hqa, hX, hNN⟩ := id L
  obtain ⟨r, vM1, h⟩ := h
  rcases h with h | h
  · obtain ⟨h1, h2, h3⟩ := h
    refine w_aload_n C (zd tL_law10 34 rfl) rfl ?_
    refine w_arg L ⟨by omega, by omega⟩ rfl rfl (zd tL_law10 35 rfl) (zd tL_law10 36 rfl) (zd tL_law10 37 rfl) (zd tL_law10 38 rfl) (zd tL_law10 39 rfl) ?_
    refine w_arg L ⟨by omega, by omega⟩ rfl rfl (zd tL_law11 0 rfl) (zd tL_law11 1 rfl) (zd tL_law11 2 rfl) (zd tL_law11 3 rfl) (zd tL_law11 4 rfl) ?_
    refine w_arg L ⟨by omega, by omega⟩ rfl rfl (zd tL_law11 5 rfl) (zd tL_law11 6 rfl) (zd tL_law11 7 rfl) (zd tL_law11 8 rfl) (zd tL_law11 9 rfl) ?_
    refine w_aloadS_n C (zd tL_law11 10 rfl) rfl ?_
    refine w_callL L (qL_quarter _ _ _ _ _ _ _ (zar_R _ _ _) (zar_R _ _ _) (zar_R _ _ _) hvC h1) (zgSW zwd_955 zwd_956 zwd_0 (zt4 237 rfl rfl)) rfl pL_quarter rfl ⟨rfl, rfl⟩ ⟨Nat.le_of_ble_eq_true rfl, Nat.le_of_ble_eq_true rfl⟩ (k' := k) (n' := n) ⟨rfl, rfl⟩ ⟨by show _ ≤ 601024; omega, by show _ ≤ 7293034; omega⟩ [] rfl (Nat.le_of_ble_eq_true rfl) (zd tL_law11 11 rfl) (fun pC => ?_)
    refine w_istore C (zd tL_law11 12 rfl) (by rw [hN]; decide) ?_
    refine w_aload_n C (zd tL_law11 13 rfl) rfl ?_
    refine w_arg L ⟨by omega, by omega⟩ rfl rfl (zd tL_law11 14 rfl) (zd tL_law11 15 rfl) (zd tL_law11 16 rfl) (zd tL_law11 17 rfl) (zd tL_law11 18 rfl) ?_
    refine w_arg L ⟨by omega, by omega⟩ rfl rfl (zd tL_law11 19 rfl) (zd tL_law11 20 rfl) (zd tL_law11 21 rfl) (zd tL_law11 22 rfl) (zd tL_law11 23 rfl) ?_
    refine w_arg L ⟨by omega, by omega⟩ rfl rfl (zd tL_law11 24 rfl) (zd tL_law11 25 rfl) (zd tL_law11 26 rfl) (zd tL_law11 27 rfl) (zd tL_law11 28 rfl) ?_
    refine w_callV C (o := 137) (nw := 24) hRm (A := zwl (zEi E) (zEb E) 0 137 vC') (zAB_M hqa) (fun j _ => hcov _ (by omega)) (qX12_quarter _ _ _ _ (zar_R _ _ _) (zar_R _ _ _) (zar_R _ _ _) hvM h2) rfl (Nat.le_refl 137) (by decide) (by decide) rfl (zgV zwd_1263 zwd_1264 zwd_1265 zwd_13 zwd_1266) rfl pX12_quarter rfl ⟨rfl, rfl⟩ ⟨Nat.le_of_ble_eq_true rfl, Nat.le_of_ble_eq_true rfl⟩ (k' := k) (n' := n) ⟨rfl, rfl⟩ ⟨by show _ ≤ 601024; omega, by show _ ≤ 7293034; omega⟩ [] rfl (Nat.le_of_ble_eq_true rfl) (zd tL_law11 29 rfl) [zi r] rfl (fun pM => ?_)
    refine w_istore C (zd tL_law11 30 rfl) (by rw [hN]; decide) ?_
    refine w_aload_n C (zd tL_law11 31 rfl) rfl ?_
    refine w_callV C (o := 137) (nw := 24) hRm (A := zwl (zEi E) (zEb E) 0 137 vC') (zAB_M hqa) (fun j _ => hcov _ (by omega)) (qX12_thrown _ _ _ _  pM.1 h3) rfl (Nat.le_refl 137) (by decide) (by decide) rfl (zgV zwd_963 zwd_964 zwd_965 zwd_13 zwd_966) rfl pX12_thrown rfl ⟨rfl, rfl⟩ ⟨Nat.le_of_ble_eq_true rfl, Nat.le_of_ble_eq_true rfl⟩ (k' := k) (n' := n) ⟨rfl, rfl⟩ ⟨by show _ ≤ 601024; omega, by show _ ≤ 7293034; omega⟩ [] rfl (Nat.le_of_ble_eq_true rfl) (zd tL_law11 32 rfl) [zi 0] rfl (fun pT => ?_)
    refine w_iload C (zd tL_law11 33 rfl) rfl ?_
    refine w_ieq (tgt := 774) C pT.2 (zd tL_law11 34 rfl) (by decide) ?_
    refine w_iload C (zd tL_law11 37 rfl) rfl ?_
    refine w_if_ne (tgt := 791) C (zR_c 0 rfl) (zd tL_law11 38 rfl) (by decide) (X := none) (Y := some ()) (res := ()) (by rw [if_neg (by decide)]) (fun e => by cases e) (fun _ => ?_)
    refine w_aloadS_n C (zd tL_law11 39 rfl) rfl ?_
    refine w_iconst C (zd tL_law12 0 rfl) ?_
    refine w_lsame C hKL (t0 := 6) rfl (q := 161) (a := qa) zLW_out (x := r) (i := 6) pk_uLs rfl (zd tL_law12 1 rfl) (zd tL_law12 2 rfl) (zd tL_law12 3 rfl) (zd tL_law12 4 rfl) ?_
    refine w_if_eq (tgt := 791) C (zR_c 0 rfl) (zd tL_law12 5 rfl) (by decide) (X := some ()) (Y := none) (res := ()) (by rw [if_pos rfl]) (fun _ => ?_) (fun e => by cases e)
    refine w_goto (tgt := 1272) C (zd tL_law12 8 rfl) (by decide) ?_
    refine w_sub (lo' := zlo sa qa i) (zsub_s (zsub_s (zsub_s (zsub_s (zsub_s (zsub_n (zsub_n zsub_0))))))) ?_
    exact w_widen (by omega) (by omega) (kk pC pT.1 _)
  · obtain ⟨h1, h2, h3⟩ := h
    refine w_aload_n C (zd tL_law10 34 rfl) rfl ?_
    refine w_arg L ⟨by omega, by omega⟩ rfl rfl (zd tL_law10 35 rfl) (zd tL_law10 36 rfl) (zd tL_law10 37 rfl) (zd tL_law10 38 rfl) (zd tL_law10 39 rfl) ?_
    refine w_arg L ⟨by omega, by omega⟩ rfl rfl (zd tL_law11 0 rfl) (zd tL_law11 1 rfl) (zd tL_law11 2 rfl) (zd tL_law11 3 rfl) (zd tL_law11 4 rfl) ?_
    refine w_arg L ⟨by omega, by omega⟩ rfl rfl (zd tL_law11 5 rfl) (zd tL_law11 6 rfl) (zd tL_law11 7 rfl) (zd tL_law11 8 rfl) (zd tL_law11 9 rfl) ?_
    refine w_aloadS_n C (zd tL_law11 10 rfl) rfl ?_
    refine w_callL L (xL_quarter _ _ _ _ _ _ _ (zar_R _ _ _) (zar_R _ _ _) (zar_R _ _ _) hsT hvC h1) (zgSW zwd_955 zwd_956 zwd_0 (zt4 237 rfl rfl)) rfl pL_quarter rfl ⟨rfl, rfl⟩ ⟨Nat.le_of_ble_eq_true rfl, Nat.le_of_ble_eq_true rfl⟩ (k' := k + 1) (n' := n + 6) ⟨rfl, rfl⟩ ⟨by show _ ≤ 601024; omega, by show _ ≤ 7293034; omega⟩ [] rfl (Nat.le_of_ble_eq_true rfl) (zd tL_law11 11 rfl) (fun pC => ?_)
    refine w_istore C (zd tL_law11 12 rfl) (by rw [hN]; decide) ?_
    refine w_aload_n C (zd tL_law11 13 rfl) rfl ?_
    refine w_arg L ⟨by omega, by omega⟩ rfl rfl (zd tL_law11 14 rfl) (zd tL_law11 15 rfl) (zd tL_law11 16 rfl) (zd tL_law11 17 rfl) (zd tL_law11 18 rfl) ?_
    refine w_arg L ⟨by omega, by omega⟩ rfl rfl (zd tL_law11 19 rfl) (zd tL_law11 20 rfl) (zd tL_law11 21 rfl) (zd tL_law11 22 rfl) (zd tL_law11 23 rfl) ?_
    refine w_arg L ⟨by omega, by omega⟩ rfl rfl (zd tL_law11 24 rfl) (zd tL_law11 25 rfl) (zd tL_law11 26 rfl) (zd tL_law11 27 rfl) (zd tL_law11 28 rfl) ?_
    refine w_callV C (o := 137) (nw := 24) hRm (A := zwl (zEi E) (zEb E) 0 137 vC') (zAB_M hqa) (fun j _ => hcov _ (by omega)) (qX12_quarter _ _ _ _ (zar_R _ _ _) (zar_R _ _ _) (zar_R _ _ _) hvM h2) rfl (Nat.le_refl 137) (by decide) (by decide) rfl (zgV zwd_1263 zwd_1264 zwd_1265 zwd_13 zwd_1266) rfl pX12_quarter rfl ⟨rfl, rfl⟩ ⟨Nat.le_of_ble_eq_true rfl, Nat.le_of_ble_eq_true rfl⟩ (k' := k + 1) (n' := n + 6) ⟨rfl, rfl⟩ ⟨by show _ ≤ 601024; omega, by show _ ≤ 7293034; omega⟩ [] rfl (Nat.le_of_ble_eq_true rfl) (zd tL_law11 29 rfl) [zi r] rfl (fun pM => ?_)
    refine w_istore C (zd tL_law11 30 rfl) (by rw [hN]; decide) ?_
    refine w_aload_n C (zd tL_law11 31 rfl) rfl ?_
    refine w_callV C (o := 137) (nw := 24) hRm (A := zwl (zEi E) (zEb E) 0 137 vC') (zAB_M hqa) (fun j _ => hcov _ (by omega)) (qX12_thrown _ _ _ _  pM.1 h3) rfl (Nat.le_refl 137) (by decide) (by decide) rfl (zgV zwd_963 zwd_964 zwd_965 zwd_13 zwd_966) rfl pX12_thrown rfl ⟨rfl, rfl⟩ ⟨Nat.le_of_ble_eq_true rfl, Nat.le_of_ble_eq_true rfl⟩ (k' := k + 1) (n' := n + 6) ⟨rfl, rfl⟩ ⟨by show _ ≤ 601024; omega, by show _ ≤ 7293034; omega⟩ [] rfl (Nat.le_of_ble_eq_true rfl) (zd tL_law11 32 rfl) [zi 1] rfl (fun pT => ?_)
    refine w_iload C (zd tL_law11 33 rfl) rfl ?_
    refine w_ieq (tgt := 774) C pT.2 (zd tL_law11 34 rfl) (by decide) ?_
    refine w_iload C (zd tL_law11 37 rfl) rfl ?_
    refine w_if_ne (tgt := 791) C (zR_c 1 rfl) (zd tL_law11 38 rfl) (by decide) (X := some ()) (Y := none) (res := ()) (by rw [if_pos (by decide)]) (fun _ => ?_) (fun e => by cases e)
    refine w_goto (tgt := 1272) C (zd tL_law12 8 rfl) (by decide) ?_
    refine w_sub (lo' := zlo sa qa i) (zsub_s (zsub_s (zsub_s (zsub_s (zsub_s (zsub_n (zsub_n zsub_0))))))) ?_
    exact w_widen (by omega) (by omega) (kk pC pT.1 _)
/-- script[i] & 31 -/
def zop (xs : Nat → Int32) (i : Int) : Int := zand (xs i.toNat).toInt 31
/-- what one round asks of the two sides -/
def zStep (xs : Nat → Int32) (i : Int) (vC vM vC' vM' : zHp) : Prop := (zop xs i = 0 → zS_0 xs i vC vM vC' vM') ∧ (zop xs i = 1 → zS_1 xs i vC vM vC' vM') ∧ (zop xs i = 2 → zS_2 xs i vC vM vC' vM') ∧ (zop xs i = 3 → zS_3 xs i vC vM vC' vM') ∧ (zop xs i = 4 → zS_4 xs i vC vM vC' vM') ∧ (zop xs i = 5 → zS_5 xs i vC vM vC' vM') ∧ (zop xs i = 6 → zS_6 xs i vC vM vC' vM') ∧ (zop xs i = 7 → zS_7 xs i vC vM vC' vM') ∧ (zop xs i = 8 → zS_8 xs i vC vM vC' vM') ∧ (zop xs i = 9 → zS_9 xs i vC vM vC' vM') ∧ (zop xs i = 10 → zS_10 xs i vC vM vC' vM') ∧ (zop xs i = 11 → zS_11 xs i vC vM vC' vM') ∧ (zop xs i = 12 → zS_12 xs i vC vM vC' vM') ∧ (zop xs i = 13 → zS_13 xs i vC vM vC' vM') ∧ (zop xs i = 14 → zS_14 xs i vC vM vC' vM') ∧ (zop xs i = 15 → zS_15 xs i vC vM vC' vM') ∧ (zop xs i = 16 → zS_16 xs i vC vM vC' vM') ∧ (zop xs i = 17 → zS_17 xs i vC vM vC' vM') ∧ (zop xs i = 18 → zS_18 xs i vC vM vC' vM') ∧ (zop xs i = 19 → zS_19 xs i vC vM vC' vM') ∧ (zop xs i = 20 → zS_20 xs i vC vM vC' vM') ∧ (zop xs i = 21 → zS_21 xs i vC vM vC' vM') ∧ (zop xs i < 0 ∨ 21 < zop xs i → vC' = vC ∧ vM' = vM)
set_option maxRecDepth 100000 in
set_option maxHeartbeats 4000000 in
theorem s_all (L : zLC E idJ qa sa N xs ad adV) (hi : 0 ≤ i ∧ i + 5 < (N : Int)) {vC' vM' : zHp} (hvC : zV 0 137 vC) (hvM : zV 137 24 vM) (h : zStep xs i vC vM vC' vM') (hk : k + 260 ≤ 601024 ∧ n + 2080 ≤ 7293034) (kk : zV 0 137 vC' → zV 137 24 vM' → ∀ gO, zY E (k + 260) (n + 2080) (zLW (zEi E) idJ (zEb E) qa vC' vM' gO) 1272 (zlo sa qa i) []) : zY E k n (zLW (zEi E) idJ (zEb E) qa vC vM gO) 33 (zlo sa qa i) [] := by
  have C := L.1
  refine w_aloadS_n C (zd tL_law0 19 rfl) rfl ?_
  refine w_iload C (zd tL_law0 20 rfl) rfl ?_
  refine w_sld L (by omega) (zd tL_law0 21 rfl) ?_
  refine w_bipush C (by decide) (zd tL_law0 22 rfl) ?_
  refine w_iand C (zd tL_law0 23 rfl) ?_
  have hz : zR (zop xs i) := zR_and _ _
  change zY E k n _ _ _ [zi (zop xs i)]
  obtain ⟨h0, h1, h2, h3, h4, h5, h6, h7, h8, h9, h10, h11, h12, h13, h14, h15, h16, h17, h18, h19, h20, h21, hx⟩ := h
  by_cases c0 : zop xs i = 0
  · exact w_tblIn (tgt := 144) C hz c0 (zd tL_law0 24 rfl) (by decide) (by decide) rfl (by decide) (s_0 L hi hvC hvM (h0 c0) hk kk)
  by_cases c1 : zop xs i = 1
  · exact w_tblIn (tgt := 217) C hz c1 (zd tL_law0 24 rfl) (by decide) (by decide) rfl (by decide) (s_1 L hi hvC hvM (h1 c1) hk kk)
  by_cases c2 : zop xs i = 2
  · exact w_tblIn (tgt := 242) C hz c2 (zd tL_law0 24 rfl) (by decide) (by decide) rfl (by decide) (s_2 L hi hvC hvM (h2 c2) hk kk)
  by_cases c3 : zop xs i = 3
  · exact w_tblIn (tgt := 267) C hz c3 (zd tL_law0 24 rfl) (by decide) (by decide) rfl (by decide) (s_3 L hi hvC hvM (h3 c3) hk kk)
  by_cases c4 : zop xs i = 4
  · exact w_tblIn (tgt := 335) C hz c4 (zd tL_law0 24 rfl) (by decide) (by decide) rfl (by decide) (s_4 L hi hvC hvM (h4 c4) hk kk)
  by_cases c5 : zop xs i = 5
  · exact w_tblIn (tgt := 400) C hz c5 (zd tL_law0 24 rfl) (by decide) (by decide) rfl (by decide) (s_5 L hi hvC hvM (h5 c5) hk kk)
  by_cases c6 : zop xs i = 6
  · exact w_tblIn (tgt := 437) C hz c6 (zd tL_law0 24 rfl) (by decide) (by decide) rfl (by decide) (s_6 L hi hvC hvM (h6 c6) hk kk)
  by_cases c7 : zop xs i = 7
  · exact w_tblIn (tgt := 526) C hz c7 (zd tL_law0 24 rfl) (by decide) (by decide) rfl (by decide) (s_7 L hi hvC hvM (h7 c7) hk kk)
  by_cases c8 : zop xs i = 8
  · exact w_tblIn (tgt := 603) C hz c8 (zd tL_law0 24 rfl) (by decide) (by decide) rfl (by decide) (s_8 L hi hvC hvM (h8 c8) hk kk)
  by_cases c9 : zop xs i = 9
  · exact w_tblIn (tgt := 616) C hz c9 (zd tL_law0 24 rfl) (by decide) (by decide) rfl (by decide) (s_9 L hi hvC hvM (h9 c9) hk kk)
  by_cases c10 : zop xs i = 10
  · exact w_tblIn (tgt := 665) C hz c10 (zd tL_law0 24 rfl) (by decide) (by decide) rfl (by decide) (s_10 L hi hvC hvM (h10 c10) hk kk)
  by_cases c11 : zop xs i = 11
  · exact w_tblIn (tgt := 714) C hz c11 (zd tL_law0 24 rfl) (by decide) (by decide) rfl (by decide) (s_11 L hi hvC hvM (h11 c11) hk kk)
  by_cases c12 : zop xs i = 12
  · exact w_tblIn (tgt := 794) C hz c12 (zd tL_law0 24 rfl) (by decide) (by decide) rfl (by decide) (s_12 L hi hvC hvM (h12 c12) hk kk)
  by_cases c13 : zop xs i = 13
  · exact w_tblIn (tgt := 843) C hz c13 (zd tL_law0 24 rfl) (by decide) (by decide) rfl (by decide) (s_13 L hi hvC hvM (h13 c13) hk kk)
  by_cases c14 : zop xs i = 14
  · exact w_tblIn (tgt := 892) C hz c14 (zd tL_law0 24 rfl) (by decide) (by decide) rfl (by decide) (s_14 L hi hvC hvM (h14 c14) hk kk)
  by_cases c15 : zop xs i = 15
  · exact w_tblIn (tgt := 957) C hz c15 (zd tL_law0 24 rfl) (by decide) (by decide) rfl (by decide) (s_15 L hi hvC hvM (h15 c15) hk kk)
  by_cases c16 : zop xs i = 16
  · exact w_tblIn (tgt := 1022) C hz c16 (zd tL_law0 24 rfl) (by decide) (by decide) rfl (by decide) (s_16 L hi hvC hvM (h16 c16) hk kk)
  by_cases c17 : zop xs i = 17
  · exact w_tblIn (tgt := 1059) C hz c17 (zd tL_law0 24 rfl) (by decide) (by decide) rfl (by decide) (s_17 L hi hvC hvM (h17 c17) hk kk)
  by_cases c18 : zop xs i = 18
  · exact w_tblIn (tgt := 1072) C hz c18 (zd tL_law0 24 rfl) (by decide) (by decide) rfl (by decide) (s_18 L hi hvC hvM (h18 c18) hk kk)
  by_cases c19 : zop xs i = 19
  · exact w_tblIn (tgt := 1161) C hz c19 (zd tL_law0 24 rfl) (by decide) (by decide) rfl (by decide) (s_19 L hi hvC hvM (h19 c19) hk kk)
  by_cases c20 : zop xs i = 20
  · exact w_tblIn (tgt := 1210) C hz c20 (zd tL_law0 24 rfl) (by decide) (by decide) rfl (by decide) (s_20 L hi hvC hvM (h20 c20) hk kk)
  by_cases c21 : zop xs i = 21
  · exact w_tblIn (tgt := 1235) C hz c21 (zd tL_law0 24 rfl) (by decide) (by decide) rfl (by decide) (s_21 L hi hvC hvM (h21 c21) hk kk)
  have hout : zop xs i < 0 ∨ 21 < zop xs i := by omega
  obtain ⟨rfl, rfl⟩ := hx hout
  exact w_tblOut (tgt := 1272) C hz hout (zd tL_law0 24 rfl) (by decide) (w_widen (by omega) (by omega) (kk hvC hvM _))
set_option maxRecDepth 100000 in
set_option maxHeartbeats 4000000 in
/-- the loop, from round j on -/
theorem law_loop (L : zLC E idJ qa sa N xs ad adV) (S : Nat → zHp × zHp) (hS : ∀ j : Nat, 6 * j + 5 < N → zStep xs (6 * (j : Int)) (S j).1 (S j).2 (S (j + 1)).1 (S (j + 1)).2) (hend : ∀ (k n : Nat) (ws : va_W) (lo : List (Option zAV)), k ≤ 601024 → n ≤ 7293034 → zY E k n ws 1279 lo [zi 1]) : ∀ (m j : Nat) (k n : Nat) (gO : Nat → Int64), N / 6 - j = m → j ≤ N / 6 → k + 260 * m ≤ 601024 → n + 2080 * m ≤ 7293034 → zV 0 137 (S j).1 → zV 137 24 (S j).2 → zY E k n (zLW (zEi E) idJ (zEb E) qa (S j).1 (S j).2 gO) 23 (zlo sa qa (6 * (j : Int))) [] := by
  have C := L.1
  have hNN := L.2.2.2.2.2.2.2.2.2.2
  have hN7 := L.2.2.2.2.2.1
  intro m
  induction m with
  | zero =>
    intro j k n gO hm hj hk hn hvC hvM
    refine w_iload C (zd tL_law0 13 rfl) rfl ?_
    refine w_aloadS_n C (zd tL_law0 14 rfl) rfl ?_
    refine w_slen L (zd tL_law0 15 rfl) ?_
    refine w_bipush C (by decide) (zd tL_law0 16 rfl) ?_
    refine w_isub C (zd tL_law0 17 rfl) ?_
    refine w_icmp_gt (tgt := 1278) C (show zR (6 * (j : Int)) from ⟨by omega, by omega⟩) (show zR ((N : Int) - 6) from ⟨by omega, by omega⟩) (zd tL_law0 18 rfl) (by decide) (X := some ()) (Y := none) (res := ()) (by rw [if_pos (by omega)]) (fun _ => ?_) (fun e => by cases e)
    refine w_iconst C (zd tL_law20 35 rfl) ?_
    exact hend _ _ _ _ (by omega) (by omega)
  | succ m ih =>
    intro j k n gO hm hj hk hn hvC hvM
    refine w_iload C (zd tL_law0 13 rfl) rfl ?_
    refine w_aloadS_n C (zd tL_law0 14 rfl) rfl ?_
    refine w_slen L (zd tL_law0 15 rfl) ?_
    refine w_bipush C (by decide) (zd tL_law0 16 rfl) ?_
    refine w_isub C (zd tL_law0 17 rfl) ?_
    refine w_icmp_gt (tgt := 1278) C (show zR (6 * (j : Int)) from ⟨by omega, by omega⟩) (show zR ((N : Int) - 6) from ⟨by omega, by omega⟩) (zd tL_law0 18 rfl) (by decide) (X := none) (Y := some ()) (res := ()) (by rw [if_neg (by omega)]) (fun e => by cases e) (fun _ => ?_)
    have hk1 : k + 260 ≤ 601024 := by omega
    have hn1 : n + 2080 ≤ 7293034 := by omega
    have hi1 : 0 ≤ 6 * (j : Int) ∧ 6 * (j : Int) + 5 < (N : Int) := ⟨by omega, by omega⟩
    refine s_all L hi1 hvC hvM (hS j (by omega)) ⟨hk1, hn1⟩ (fun hvC' hvM' gO' => ?_)
    refine w_iincE C (zd tL_law20 33 rfl) (by rw [hN7]; decide) rfl (t := 6 * ((j + 1 : Nat) : Int)) (by omega) ?_
    refine w_goto (tgt := 23) C (zd tL_law20 34 rfl) (by decide) ?_
    exact ih (j + 1) (k + 260) (n + 2080) gO' (by omega) (by omega) (by omega) (by omega) hvC' hvM'
end ZLAW
