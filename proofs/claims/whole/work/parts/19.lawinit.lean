/-! the law's first steps. By wip/whole/genlawinit.py. -/
theorem zdf_11 : ∀ j, j < 10 → defaultValue (tyX11 j) = (if zft 11 j = 2 then Value.null else .int 0) := by decide +kernel
theorem zdf_12 : ∀ j, j < 38 → defaultValue (tyX12 j) = (if zft 12 j = 2 then Value.null else .int 0) := by decide +kernel
def z0 : zHp := fun _ _ => 0
theorem z0_R : zV0 z0 := ⟨fun _ _ => zR_0, trivial⟩
theorem zwl_congr {ids : Nat → ClassId} {b o n : Nat} {v v1 : zHp} (h : ∀ a, o ≤ a → a < o + n → v a = v1 a) : zwl ids b o n v = zwl ids b o n v1 := by
  unfold zwl
  refine List.map_congr_left fun i hi => ?_
  have := List.mem_range.mp hi
  rw [h (o + i) (by omega) (by omega)]
theorem zPreM_blind {av : List Value} {sz : Nat} {D : va_G} {ids : Nat → ClassId} {b o : Nat} {zz : Prop} {nn : Nat} {v : zHp} : FrameBlind (va_Pc av (fun U => U.heap.size = sz ∧ zWS D ids b o zz nn v U)) := zPre_blind
section ZINIT
variable {E : zE} {idJ : ClassId} {k n : Nat} {lo : List (Option zAV)} {st : List zAV}
/-- the reference's constructor: from the one world to two -/
theorem w_initM (C : zC E 138 cL_law RL zTL) (hz : zEz E = True) (ho : zEo E = 0) (hRm : zER E = room_1) {vC v1 : zHp} {Pf : Prop} {pc k' n' : Nat}
    (M : zCTM (zEl E) yX12_init vsX12_init rmX12_init (zED E) (zEi E) (zEb E) 137 1 [zr 137] (zfr vC 137) 24 Pf none v1 23 479917) (hkn : k + 23 = k' ∧ n + 479917 = n') (hF : k' ≤ room_1.cells ∧ n' ≤ room_1.slots) (hl8 : st.length ≤ 8) (d : decode cL_law pc = .ok (.invokespecial 22, 3))
    (kk : Pf → zY E k' n' (zwl (zEi E) (zEb E) 0 137 vC ++ (zwl (zEi E) (zEb E) 137 24 v1 ++ [])) (pc + 3) lo st) : zX E k n 138 (zfr vC 137) pc lo (zr 137 :: st) := by
  obtain ⟨rfl, rfl⟩ := hkn
  rw [← hRm] at hF
  intro H locs ls hP hS hZ hl
  obtain ⟨hx, hb, hown, hts, hK, hlocks, hml, hA, hAn⟩ := id C
  have hcat := w_cat (b := zEb E) hl8
  rw [ho] at hP hZ
  have hsz : H.size = zEb E + (0 + 138) := hZ (by rw [hz]; trivial)
  have hP1 : va_P (zED E) vwCl (zwl (zEi E) (zEb E) 137 1 (zfr vC 137)) H := by
    intro j x hx2
    have hj : j < 1 := by have := (List.getElem?_eq_some_iff.mp hx2).1; rwa [zwl_len] at this
    rw [zwl_at' hj] at hx2
    refine hP 137 x ?_
    rw [zwl_at' (by decide)]
    have : j = 0 := by omega
    subst this
    exact hx2
  have hP0 : va_P (zED E) vwCl (zwl (zEi E) (zEb E) 0 137 vC) H := by
    rw [← zwl_congr (v := zfr vC 137) (v1 := vC) (fun a _ h => by funext j; unfold zfr; rw [if_neg (by omega)])]
    intro j x hx2
    have hj : j < 137 := by have := (List.getElem?_eq_some_iff.mp hx2).1; rwa [zwl_len] at this
    rw [zwl_at' hj] at hx2
    refine hP j x ?_
    rw [zwl_at' (by omega)]
    exact hx2
  have hAA : ∀ q, zA (zEb E) 137 1 H.size q → (zEA E) q := by
    intro q hq
    rcases hq with ⟨h1, h2⟩ | h1
    · have := hAn 137 (by omega)
      rw [ho] at this
      have e : zEb E + (0 + 137) = q := by omega
      rwa [e] at this
    · exact hA q (Nat.le_trans hS.1 h1)
  show W _ _ _ _ _ _ _ _ _ _ _ _ _ _ _ (F0 _ _ _ (.ref (zEb E + 137) :: _))
  have hr := va_runI (p := zEp E) (l := zEl E) (e := zEe E) (R := zER E) (below := zEbe E) (meth := zEme E) (locs := locs) (cells := k) (slots := n) (As := []) (b := zEb E + 137) (rest := st.map (zxv (zEb E))) (g := F0 (zEm E) pc ls (.ref (zEb E + 137) :: st.map (zxv (zEb E)))) ⟨hx, hb, hml, hown, hts⟩ (M H.size) (cwI 0 hts (zgI zwd_979) rfl rfl rfl (hts _ (zm zwd_13)) (hts _ (zm zwd_977)) (hts _ (zm zwd_978)) rfl pX12_init.2 (by rw [hRm]; exact ⟨Nat.le_of_ble_eq_true rfl, Nat.le_of_ble_eq_true rfl⟩)) ⟨zPreM_blind, fun U hU hW => ⟨rfl, by rw [hU], ⟨by rw [hU]; exact hP1, va_K.moved hW.alike hK, fun _ => by rw [hU, hsz]⟩⟩⟩ rfl rfl hl.1 rfl (lv_room hcat) d hF
  intro T hT X
  obtain ⟨v', st₀, t, T', L, h0, X', hL, e1, e2, ⟨⟨hpf, hv, hws⟩, hFr⟩, stp⟩ := hr T hT X
  cases hv
  obtain ⟨hzz, hkk⟩ := hFr
  rw [h0] at hzz hkk
  have hS1 : va_S (zEA E) (zEH E) T'.heap (locs ++ L) := ⟨Nat.le_trans hS.1 (by rw [e1]; exact hzz), fun q h1 h2 => by rw [e1, hkk q (Nat.lt_of_lt_of_le h1 hS.1) (fun z => h2 (hAA q z))]; exact hS.2.1 q h1 h2, fun q hq => by
      rcases List.mem_append.mp hq with h | h
      · exact hS.2.2 q h
      · exact hAA _ (hL q h)⟩
  have hP2 : va_P (zED E) vwCl (zwl (zEi E) (zEb E) 0 137 vC ++ (zwl (zEi E) (zEb E) 137 24 v1 ++ [])) T'.heap := by
    rw [e1]
    refine va_P.app (wP_keep (o := 137) (nw := 1) hP0 (fun q hq => by have := zwl_mem hq; omega) hkk) (va_P.app hws.1 fun j x hx2 => by cases hx2)
  obtain ⟨t2, a1, b1⟩ := kk hpf T'.heap (locs ++ L) ls hP2 hS1 trivial hl T' rfl X'
  exact ⟨t2, stp t2 a1, b1⟩
set_option maxHeartbeats 4000000 in
theorem law_init (C0 : zC E 0 cL_law RL zTL) (hKL : va_K (zED E) vwCl (ztysL (zEi E) idJ) (zEs E)) (hNw : zNw (zEs E)) (hz : zEz E = True) (ho : zEo E = 0) (hRm : zER E = room_1) (hN : zEN E = 7) (hH : (zEH E).size = zEb E) {sa : Nat} {vC vM : zHp} {r1 r2 : Int} (h1 : fX11_init (zfr z0 0) = some (vC, r1)) (h2 : fX12_init (zfr vC 137) = some (vM, r2))
    (kk : ∀ qa, zEb E + 161 ≤ qa → zV0 vC → zV 137 24 vM → zY E 162 558816 (zLW (zEi E) idJ (zEb E) qa vC vM (fun _ => 0)) 23 (zlo sa qa 0) []) : zX E 0 0 0 z0 0 [some (zs sa), none, none, none, none, none, none] [] := by
  refine z_newO C0 hz hRm (ci := 11) (k' := 1) (n' := 10) (nn' := 1) (a := 0) tyX11 tyX11_ok zdf_11 (by rw [ho]; rfl) (by decide) rfl zic_11 (zm zwd_23) (zm zwd_24) (zm zwd_1) ⟨rfl, rfl⟩ ⟨Nat.le_of_ble_eq_true rfl, Nat.le_of_ble_eq_true rfl⟩ (by rw [ho]) rfl rfl (zd tL_law0 0 rfl) ?_
  have C1 : zC E 1 cL_law RL zTL := C0.to (by omega) (by omega)
  refine z_dup C1 (zd tL_law0 1 rfl) ?_
  refine zc_IP C1 hNw ho hz hRm (nn := 1) (nn1 := 137) (mc := 136) (ms := 78850) (st := [zr 0]) (qX11_init _ _ _ _ z0_R.fr h1) (zgI zwd_27) rfl (zm zwd_1) (zm zwd_25) (zm zwd_26) rfl pX11_init rfl ⟨⟨rfl, rfl⟩, ⟨Nat.le_of_ble_eq_true rfl, Nat.le_of_ble_eq_true rfl⟩, ⟨Nat.le_of_ble_eq_true rfl, Nat.le_of_ble_eq_true rfl⟩⟩ rfl (Nat.le_of_ble_eq_true rfl) (zd tL_law0 2 rfl) (fun p1 => ?_)
  have C2 : zC E 137 cL_law RL zTL := C0.to (by omega) (by omega)
  refine z_astore_n C2 (zd tL_law0 3 rfl) (by rw [hN]; decide) ?_
  refine z_newO C2 hz hRm (ci := 12) (k' := 138) (n' := 78898) (nn' := 138) (a := 137) tyX12 tyX12_ok zdf_12 (by rw [ho]; rfl) (by decide) rfl zic_12 (zm zwd_976) (zm zwd_974) (zm zwd_13) ⟨rfl, rfl⟩ ⟨Nat.le_of_ble_eq_true rfl, Nat.le_of_ble_eq_true rfl⟩ (by rw [ho]) rfl rfl (zd tL_law0 4 rfl) ?_
  have C3 : zC E 138 cL_law RL zTL := C0.to (by omega) (by omega)
  refine z_dup C3 (zd tL_law0 5 rfl) ?_
  refine w_initM C3 hz ho hRm (k' := 161) (n' := 558815) (qX12_init _ _ _ _ p1.fr h2) ⟨rfl, rfl⟩ ⟨Nat.le_of_ble_eq_true rfl, Nat.le_of_ble_eq_true rfl⟩ (st := [zr 137]) (Nat.le_of_ble_eq_true rfl) (zd tL_law0 6 rfl) (fun pM => ?_)
  refine w_astore_n C3 (zd tL_law0 7 rfl) (by rw [hN]; decide) ?_
  refine w_iconst C3 (zd tL_law0 8 rfl) ?_
  intro H locs ls hP hS hZ hl
  have hx := C3.1
  have hb := C3.2.1
  have hlt : zEb E + 161 ≤ H.size := by
    have h9 := (wP_Z (A := zwl (zEi E) (zEb E) 0 137 vC) hP) 23 _ (zwl_at' (by decide))
    have := h9.lt
    have e : zEb E + (137 + 23) < H.size := this
    omega
  show W _ _ _ _ _ _ _ _ _ _ _ _ _ _ _ (F0 _ _ _ (.int (zI 1) :: _))
  refine va_newaK (atype := .long) (h := H.size) hx hb (C3.2.2.2.1 _ (zm zwd_1403)) (g := F0 (zEm E) _ ls _) rfl (zd tL_law0 9 rfl) rfl (by decide) (show _ = 1 by decide) (by decide) (by rw [hRm]; exact Nat.le_of_ble_eq_true rfl) (by rw [hRm]; exact Nat.le_of_ble_eq_true rfl) rfl fun H' cA g1 g2 g3 g4 g5 => ?_
  have h6 : cA = idJ := Option.some.inj (g5.symm.trans (hKL.2 6 _ rfl).2)
  subst h6
  have hP4 : va_P (zED E) vwCl (zLW (zEi E) cA (zEb E) H.size vC vM (fun _ => 0)) H' := by
    refine va_P.app (fun j x hx2 => ?_) (va_P.app (fun j x hx2 => ?_) fun j x hx2 => ?_)
    · have h9 := wP_A hP j x hx2
      exact h9.kept (g3 _ h9.lt)
    · have h9 := wP_Z (A := zwl (zEi E) (zEb E) 0 137 vC) hP j x hx2
      exact h9.kept (g3 _ h9.lt)
    · have h9 : x = _ := List.mem_singleton.mp (List.mem_of_getElem? hx2)
      rw [h9]
      exact g1
  have hS4 : va_S (zEA E) (zEH E) H' locs := ⟨Nat.le_trans hS.1 (by omega), fun x q1 q2 => (g3 x (Nat.lt_of_lt_of_le q1 hS.1)).trans (hS.2.1 x q1 q2), hS.2.2⟩
  have K : zY E 162 558816 (zLW (zEi E) cA (zEb E) H.size vC vM (fun _ => 0)) 19 [some (zs sa), some (zr 0), some (zr 137), none, none, none, none] [zs H.size] := by
    refine w_astoreS_n C3 (zd tL_law0 10 rfl) (by rw [hN]; decide) ?_
    refine w_iconst C3 (zd tL_law0 11 rfl) ?_
    refine w_istore C3 (zd tL_law0 12 rfl) (by rw [hN]; decide) ?_
    exact kk H.size hlt p1 pM
  exact K H' locs ls hP4 hS4 trivial hl
end ZINIT
