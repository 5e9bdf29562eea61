/-! rows over the abstract heap: fields, arrays, calls, a method's start and end. My own text. -/
section ZROWS2
variable {E : zE} {nn : Nat} {cc : ByteArray} {own : String} {Ts : List Cond} {k n : Nat} {v : zHp} {pc : Nat} {lo : List (Option zAV)} {st : List zAV}
theorem zec_obj {ids : Nat → ClassId} {b ci N : Nat} (h : ci < 20) (row : Int → Int) : zec ids b (ci, N) row = .inr (ci, (List.range N).map fun j => zfv b (zft ci j) (row (j : Int))) := by
  simp [zec, h]
theorem zfs_at {b ci N j : Nat} {row : Int → Int} (h : j < N) : ((List.range N).map fun j => zfv b (zft ci j) (row (j : Int)))[j]? = some (zfv b (zft ci j) (row (j : Int))) := by
  simp [h]
theorem zfs_set {b ci N j : Nat} {row row1 : Int → Int} (h : j < N) (ho : ∀ q : Int, q ≠ (j : Int) → row1 q = row q) : ((List.range N).map fun j => zfv b (zft ci j) (row (j : Int))).set j (zfv b (zft ci j) (row1 (j : Int))) = (List.range N).map fun j => zfv b (zft ci j) (row1 (j : Int)) := by
  refine List.ext_getElem? fun i => ?_
  by_cases hi : i = j
  · subst hi
    rw [List.getElem?_set_self (by simp [h])]
    simp [h]
  · rw [List.getElem?_set_ne (Ne.symm hi)]
    by_cases hn : i < N
    · simp [hn, ho i (by omega)]
    · simp [hn]
theorem zst_ne {v : zHp} {a : Nat} {j x : Int} {q : Nat} (h : q ≠ a) : zst v a j x q = v q := by
  funext i
  simp [zst, h]
theorem zst_self {v : zHp} {a : Nat} {j x : Int} : zst v a j x a j = x := by simp [zst]
theorem zst_slot {v : zHp} {a : Nat} {j x i : Int} (h : i ≠ j) : zst v a j x a i = v a i := by simp [zst, h]
/-- a field of a class: its number, the place in it, and what the tables say -/
theorem z_getI (C : zC E nn cc own Ts) {a ci N idx : Nat} {Cn ref : String} {T : u_T} (G : zG E nn a ci N) (hci : ci < 20) (hc : vwCl[ci]? = some (Cn, T, N)) (hin : ∀ w ∈ u_ws Cn T N, w ∈ Ts) (j : Nat) {jj : Int} (hjj : (j : Int) = jj) (hj : j < N) (hft : zft ci j = 0)
    (hlink : Cond.fieldLink own idx ref (T j).2.1 (T j).2.2.1 ∈ Ts) (hsame : (T j).1 = ref) (d : decode cc pc = .ok (.getfield idx, 3)) (kk : zX E k n nn v (pc + 3) lo (zi (v a jj) :: st)) : zX E k n nn v pc lo (zr a :: st) := by
  subst hjj
  obtain ⟨hk, h1, h2⟩ := id G
  intro H locs ls hP hS hZ hl
  have he : (zwl (zEi E) (zEb E) (zEo E) nn v)[a - zEo E]? = some (zEb E + a, .inr (ci, (List.range N).map fun j => zfv (zEb E) (zft ci j) (v a (j : Int)))) := by
    rw [zwl_at h1 h2, hk, zec_obj hci]
  refine va_get (v := .int (zI (v a (j : Int)))) C.1 C.2.1 C.2.2.2.1 hin C.2.2.1 C.2.2.2.2.1 hP (a - zEo E) he hc j hj (C.2.2.2.1 _ hlink) (fun x h => by rw [← hsame]; exact h) ?_ d (kk H locs ls hP hS hZ hl)
  rw [zfs_at hj, hft]
  rfl
theorem z_getR (C : zC E nn cc own Ts) {a ci N idx : Nat} {Cn ref : String} {T : u_T} (G : zG E nn a ci N) (hci : ci < 20) (hc : vwCl[ci]? = some (Cn, T, N)) (hin : ∀ w ∈ u_ws Cn T N, w ∈ Ts) (j : Nat) {jj : Int} (hjj : (j : Int) = jj) (hj : j < N) (hft : zft ci j = 2)
    (hlink : Cond.fieldLink own idx ref (T j).2.1 (T j).2.2.1 ∈ Ts) (hsame : (T j).1 = ref) {t : Nat} (hv : v a jj = (t : Int)) (d : decode cc pc = .ok (.getfield idx, 3)) (kk : zX E k n nn v (pc + 3) lo (zr t :: st)) : zX E k n nn v pc lo (zr a :: st) := by
  subst hjj
  obtain ⟨hk, h1, h2⟩ := id G
  intro H locs ls hP hS hZ hl
  have he : (zwl (zEi E) (zEb E) (zEo E) nn v)[a - zEo E]? = some (zEb E + a, .inr (ci, (List.range N).map fun j => zfv (zEb E) (zft ci j) (v a (j : Int)))) := by
    rw [zwl_at h1 h2, hk, zec_obj hci]
  refine va_get (v := .ref (zEb E + t)) C.1 C.2.1 C.2.2.2.1 hin C.2.2.1 C.2.2.2.2.1 hP (a - zEo E) he hc j hj (C.2.2.2.1 _ hlink) (fun x h => by rw [← hsame]; exact h) ?_ d (kk H locs ls hP hS hZ hl)
  rw [zfs_at hj, hft, hv]
  have h0 : ¬ (t : Int) < 0 := by omega
  simp [zfv, h0]
/-- a write into a field that is not final: every cell's place stays -/
theorem z_put_W (C : zC E nn cc own Ts) {a ci N idx : Nat} {Cn ref : String} {T : u_T} (ty0 : Nat → FieldType) (hty : ∀ k, k < N → parseFieldDescriptor (T k).2.2.1 = some (ty0 k)) (hnm : ∀ a, a < N → ∀ b, b < N → a ≠ b → (T a).2.1 ≠ (T b).2.1) (G : zG E nn a ci N) (hci : ci < 20) (hc : vwCl[ci]? = some (Cn, T, N)) (hin : ∀ w ∈ u_ws Cn T N, w ∈ Ts) (j : Nat) (hj : j < N)
    (hlink : Cond.fieldLink own idx ref (T j).2.1 (T j).2.2.1 ∈ Ts) (hsame : (T j).1 = ref) (hfin : (T j).2.2.2 = false ∨ ((T j).2.2.2 = true ∧ (zEme E).name = "<init>" ∧ (T j).1 = own)) {ty : FieldType} (hd : parseFieldDescriptor (T j).2.2.1 = some ty) {x : Int} {val : Value} (hval : val = zfv (zEb E) (zft ci j) x) (hn : narrow ty val = val) (hfit : fits ty val = true) (d : decode cc pc = .ok (.putfield idx, 3))
    {H : Heap} {locs : List Loc} {ls : Array Slot} (hP : va_P (zED E) vwCl (zwl (zEi E) (zEb E) (zEo E) nn v) H) (hS : va_S (zEA E) (zEH E) H locs) {g : List Value}
    (kk : ∀ (H1 : Heap) (locs1 : List Loc), va_P (zED E) vwCl (zwl (zEi E) (zEb E) (zEo E) nn (zst v a j x)) H1 → va_S (zEA E) (zEH E) H1 locs1 → H1.size = H.size → W (zEp E) (zEl E) (zEe E) (zER E) (zEs E) (zEm E) (zEa E) (zEbe E) (zEme E) (zEc E) H1 locs1 k n (zEQ E) (F0 (zEm E) (pc + 3) ls g)) :
    W (zEp E) (zEl E) (zEe E) (zER E) (zEs E) (zEm E) (zEa E) (zEbe E) (zEme E) (zEc E) H locs k n (zEQ E) (F0 (zEm E) pc ls (val :: .ref (zEb E + a) :: g)) := by
  obtain ⟨hk, h1, h2⟩ := id G
  obtain ⟨hx, hb, hown, hts, hK, hlocks, hml, hA, hAn⟩ := C
  have he : (zwl (zEi E) (zEb E) (zEo E) nn v)[a - zEo E]? = some (zEb E + a, .inr (ci, (List.range N).map fun j => zfv (zEb E) (zft ci j) (v a (j : Int)))) := by
    rw [zwl_at h1 h2, hk, zec_obj hci]
  have hD : va_D (zEA E) (zwl (zEi E) (zEb E) (zEo E) nn v) := zwl_D hAn
  have hset : (zwl (zEi E) (zEb E) (zEo E) nn v).set (a - zEo E) (zEb E + a, .inr (ci, ((List.range N).map fun j => zfv (zEb E) (zft ci j) (v a (j : Int))).set j val)) = zwl (zEi E) (zEb E) (zEo E) nn (zst v a j x) := by
    refine zwl_set h1 h2 ?_ (fun q hq => zst_ne hq)
    rw [hk, zec_obj hci, hval, ← zfs_set (row := v a) hj (fun q hq => zst_slot hq), zst_self]
  have hap := va_apart (own := own) hts hin ty0 hty hnm hK hc
  obtain ⟨r, e1, cell, q1, q2, q3, q4⟩ := hP (a - zEo E) _ he
  have hr : r = (Cn, T, N) := Option.some.inj (e1.symm.trans hc)
  subst hr
  obtain ⟨hSl, hfc, kC, hkC, hkind⟩ := hK.1 ci _ hc
  obtain ⟨cf, kf, fi, f, hi, hsl⟩ := hSl j hj
  have hlay := hts _ (hin _ (u_in_lay hj))
  have hst := (u_facts hfc hkC (u_lays hts hin hj) hi).1
  have hl : j < ((List.range N).map fun j => zfv (zEb E) (zft ci j) (v a (j : Int))).length := by simp [hj]
  have hi' : (zEs E).fieldFound? ref (T j).2.1 (T j).2.2.1 = some (cf, kf, fi, f) := by rw [← hsame]; exact hi
  rcases hfin with hfin | ⟨hfin, hin2, hdecl⟩
  · unfold u_lay at hlay
    rw [if_neg (by rw [hfin]; decide)] at hlay
    have h6 := u_store hfc hkC hkind hlay hi hd hn hfit
    refine W.putK hx hb (f := f) ⟨hown, hts _ hlink, ⟨_, _, _, hi'⟩, hst⟩ (by rw [q2]; exact h6) q1 q3 (by rw [hsl]; exact k2_hasslot (q4 j hj)) rfl rfl d fun H' e1 e2 e3 => ?_
    rw [hsl] at e1 ⊢
    refine kk H' _ ?_ (hS.put e2 e3 (hD.2 (a - zEo E) _ he)) e2
    rw [← hset]
    exact hP.set hD he ⟨_, hc, t_OB.to (V := updV (vp_V _) j val) ⟨_, e1, q2, q3, t_set q4 hap hj val⟩ (fun j _ => vp_updV_set hl val j)⟩ e3
  · unfold u_lay at hlay
    rw [if_pos hfin] at hlay
    have hcf : (zEm E).cls = cf := by
      obtain ⟨_, _, c', _, _, _, -, -, hf', -, -, -, hown2, -⟩ := Cond.laysFinal_spec hlay
      have e1 : c' = cf := by have := hi.symm.trans hf'; simp at this; exact this.1.symm
      rw [hdecl] at hown2
      rw [← e1]; exact Option.some.inj (hown.symm.trans hown2)
    have h6 := u_fits hfc hkC hkind (Or.inr hlay) hi hd hn hfit
    refine W.putFinK hx hb hown (hts _ hlink) hi' hst hcf hin2 (by rw [q2]; exact h6) q1 q3 (by rw [hsl]; exact k2_hasslot (q4 j hj)) rfl rfl d fun H' e1 e2 e3 => ?_
    rw [hsl] at e1 ⊢
    refine kk H' _ ?_ (hS.put e2 e3 (hD.2 (a - zEo E) _ he)) e2
    rw [← hset]
    exact hP.set hD he ⟨_, hc, t_OB.to (V := updV (vp_V _) j val) ⟨_, e1, q2, q3, t_set q4 hap hj val⟩ (fun j _ => vp_updV_set hl val j)⟩ e3
theorem z_putI (C : zC E nn cc own Ts) {a ci N idx : Nat} {Cn ref : String} {T : u_T} {ty0 : Nat → FieldType} (hty : ∀ k, k < N → parseFieldDescriptor (T k).2.2.1 = some (ty0 k)) (hnm : ∀ a, a < N → ∀ b, b < N → a ≠ b → (T a).2.1 ≠ (T b).2.1) (G : zG E nn a ci N) (hci : ci < 20) (hc : vwCl[ci]? = some (Cn, T, N)) (hin : ∀ w ∈ u_ws Cn T N, w ∈ Ts) (j : Nat) {jj : Int} (hjj : (j : Int) = jj) (hj : j < N) (hft : zft ci j = 0)
    (hlink : Cond.fieldLink own idx ref (T j).2.1 (T j).2.2.1 ∈ Ts) (hsame : (T j).1 = ref) (hfin : (T j).2.2.2 = false) {ty : FieldType} (hd : parseFieldDescriptor (T j).2.2.1 = some ty) {x : Int} (hn : narrow ty (.int (zI x)) = .int (zI x)) (hfit : fits ty (.int (zI x)) = true) (d : decode cc pc = .ok (.putfield idx, 3))
    (kk : ∀ v1, v1 = zst v a jj x → zX E k n nn v1 (pc + 3) lo st) : zX E k n nn v pc lo (zi x :: zr a :: st) := by
  subst hjj
  intro H locs ls hP hS hZ hl
  exact z_put_W C ty0 hty hnm G hci hc hin j hj hlink hsame (Or.inl hfin) hd (x := x) (val := .int (zI x)) (by rw [hft]; rfl) hn hfit d hP hS fun H1 locs1 hP1 hS1 hz => kk _ rfl H1 locs1 ls hP1 hS1 (fun z => by rw [hz]; exact hZ z) hl
theorem z_putR (C : zC E nn cc own Ts) {a ci N idx : Nat} {Cn ref : String} {T : u_T} {ty0 : Nat → FieldType} (hty : ∀ k, k < N → parseFieldDescriptor (T k).2.2.1 = some (ty0 k)) (hnm : ∀ a, a < N → ∀ b, b < N → a ≠ b → (T a).2.1 ≠ (T b).2.1) (G : zG E nn a ci N) (hci : ci < 20) (hc : vwCl[ci]? = some (Cn, T, N)) (hin : ∀ w ∈ u_ws Cn T N, w ∈ Ts) (j : Nat) {jj : Int} (hjj : (j : Int) = jj) (hj : j < N) (hft : zft ci j = 2)
    (hlink : Cond.fieldLink own idx ref (T j).2.1 (T j).2.2.1 ∈ Ts) (hsame : (T j).1 = ref) (hfin : (T j).2.2.2 = false ∨ ((T j).2.2.2 = true ∧ (zEme E).name = "<init>" ∧ (T j).1 = own)) {ty : FieldType} (hd : parseFieldDescriptor (T j).2.2.1 = some ty) {t : Nat} (hn : ∀ q, narrow ty (.ref q) = .ref q) (hfit : ∀ q, fits ty (.ref q) = true) (d : decode cc pc = .ok (.putfield idx, 3))
    (kk : ∀ v1, v1 = zst v a jj (t : Int) → zX E k n nn v1 (pc + 3) lo st) : zX E k n nn v pc lo (zr t :: zr a :: st) := by
  subst hjj
  intro H locs ls hP hS hZ hl
  have h0 : ¬ (t : Int) < 0 := by omega
  exact z_put_W C ty0 hty hnm G hci hc hin j hj hlink hsame hfin hd (x := (t : Int)) (val := .ref (zEb E + t)) (by rw [hft]; simp [zfv, h0]) (hn _) (hfit _) d hP hS fun H1 locs1 hP1 hS1 hz => kk _ rfl H1 locs1 ls hP1 hS1 (fun z => by rw [hz]; exact hZ z) hl
/-! arrays -/
theorem zin {i : Int} {N : Nat} (h0 : 0 ≤ i) (h : i < (N : Int)) (hN : N ≤ 2147483647) : vp_in (zI i) N ∧ (zI i).toNatClampNeg = i.toNat ∧ ((i.toNat : Nat) : Int) = i := by
  have e : (zI i).toInt = i := zw_id ⟨by omega, by omega⟩
  refine ⟨vp_in_iff.mpr (by rw [e]; exact ⟨h0, h⟩), ?_, by omega⟩
  show (zI i).toInt.toNat = i.toNat
  rw [e]
theorem zec_arr {ids : Nat → ClassId} {b tg N : Nat} (h : 20 ≤ tg) (h2 : tg < 23) (row : Int → Int) : zec ids b (tg, N) row = .inl (ids tg, N, .inl fun j => zI (row j)) := by
  have : ¬ tg < 20 := by omega
  simp [zec, this, h2]
theorem zec_rarr {ids : Nat → ClassId} {b tg N : Nat} (h : 23 ≤ tg) (row : Int → Int) : zec ids b (tg, N) row = .inl (ids tg, N, .inr (.inr (.inr (.inr fun j => if row j < 0 then none else some (b + (row j).toNat))))) := by
  have h1 : ¬ tg < 20 := by omega
  have h2 : ¬ tg < 23 := by omega
  simp [zec, h1, h2]
theorem z_iald (C : zC E nn cc own Ts) {a N : Nat} {i : Int} (G : zG E nn a 20 N) (hN : N ≤ 2147483647) (h0 : 0 ≤ i) (hi : i < (N : Int)) (d : decode cc pc = .ok (.iaload, 1)) (kk : zX E k n nn v (pc + 1) lo (zi (v a i) :: st)) : zX E k n nn v pc lo (zi i :: zr a :: st) := by
  obtain ⟨hk, h1, h2⟩ := id G
  intro H locs ls hP hS hZ hl
  obtain ⟨hin, e, ei⟩ := zin h0 hi hN
  refine va_iald C.1 C.2.1 C.2.2.2.2.1 hP (a - zEo E) 0 (by rw [zwl_at h1 h2, hk, zec_arr (by decide) (by decide)]) rfl hin d ?_
  rw [e, ei]
  exact kk H locs ls hP hS hZ hl
theorem z_zald (C : zC E nn cc own Ts) {a N : Nat} {i : Int} (G : zG E nn a 21 N) (hN : N ≤ 2147483647) (h0 : 0 ≤ i) (hi : i < (N : Int)) (d : decode cc pc = .ok (.baload, 1)) (kk : zX E k n nn v (pc + 1) lo (zi (v a i) :: st)) : zX E k n nn v pc lo (zi i :: zr a :: st) := by
  obtain ⟨hk, h1, h2⟩ := id G
  intro H locs ls hP hS hZ hl
  obtain ⟨hin, e, ei⟩ := zin h0 hi hN
  refine va_zald C.1 C.2.1 C.2.2.2.2.1 hP (a - zEo E) 1 (by rw [zwl_at h1 h2, hk, zec_arr (by decide) (by decide)]) rfl hin d ?_
  rw [e, ei]
  exact kk H locs ls hP hS hZ hl
theorem z_bald (C : zC E nn cc own Ts) {a N : Nat} {i : Int} (G : zG E nn a 22 N) (hN : N ≤ 2147483647) (h0 : 0 ≤ i) (hi : i < (N : Int)) (d : decode cc pc = .ok (.baload, 1)) (kk : zX E k n nn v (pc + 1) lo (zi (v a i) :: st)) : zX E k n nn v pc lo (zi i :: zr a :: st) := by
  obtain ⟨hk, h1, h2⟩ := id G
  intro H locs ls hP hS hZ hl
  obtain ⟨hin, e, ei⟩ := zin h0 hi hN
  refine va_bald C.1 C.2.1 C.2.2.2.2.1 hP (a - zEo E) 2 (by rw [zwl_at h1 h2, hk, zec_arr (by decide) (by decide)]) rfl hin d ?_
  rw [e, ei]
  exact kk H locs ls hP hS hZ hl
theorem ztys_r {ids : Nat → ClassId} {tg ci : Nat} {r : vw_C} (h : (tg, ci) ∈ [(23, 1), (24, 5), (25, 8)]) (hc : vwCl[ci]? = some r) : (ztys ids)[tg - 20]? = some (ids tg, .object r.1) := by
  simp only [List.mem_cons, Prod.mk.injEq, List.not_mem_nil, or_false] at h
  rcases h with ⟨rfl, rfl⟩ | ⟨rfl, rfl⟩ | ⟨rfl, rfl⟩ <;> · cases hc; rfl
theorem z_aald (C : zC E nn cc own Ts) {a tg ci N : Nat} {r : vw_C} {i : Int} (G : zG E nn a tg N) (ht : (tg, ci) ∈ [(23, 1), (24, 5), (25, 8)]) (htg : 23 ≤ tg) (hc : vwCl[ci]? = some r) (hN : N ≤ 2147483647) (h0 : 0 ≤ i) (hi : i < (N : Int)) {t : Nat} (hv : v a i = (t : Int)) (d : decode cc pc = .ok (.aaload, 1)) (kk : zX E k n nn v (pc + 1) lo (zr t :: st)) : zX E k n nn v pc lo (zi i :: zr a :: st) := by
  obtain ⟨hk, h1, h2⟩ := id G
  intro H locs ls hP hS hZ hl
  obtain ⟨hin, e, ei⟩ := zin h0 hi hN
  refine va_aldq C.1 C.2.1 C.2.2.2.2.1 hP (a - zEo E) (tg - 20) (by rw [zwl_at h1 h2, hk, zec_rarr htg]) (ztys_r ht hc) hin d ?_
  rw [e]
  have h0 : ¬ (t : Int) < 0 := by omega
  simp only [ei, hv, h0, if_false, Int.toNat_natCast]
  exact kk H locs ls hP hS hZ hl
theorem z_alen (C : zC E nn cc own Ts) {a N : Nat} (G : zG E nn a 20 N) (d : decode cc pc = .ok (.arraylength, 1)) (kk : zX E k n nn v (pc + 1) lo (zi (N : Int) :: st)) : zX E k n nn v pc lo (zr a :: st) := by
  obtain ⟨hk, h1, h2⟩ := id G
  intro H locs ls hP hS hZ hl
  exact va_alen C.1 C.2.1 C.2.2.2.2.1 hP (a - zEo E) 0 (by rw [zwl_at h1 h2, hk, zec_arr (by decide) (by decide)]) (ty := .int) rfl (v := zI (N : Int)) rfl d (kk H locs ls hP hS hZ hl)
/-- what a store makes of the row of an array -/
theorem zst_row {v : zHp} {a j : Nat} {x : Int} : (fun q : Nat => zI (zst v a (j : Int) x a (q : Int))) = upd (fun q : Nat => zI (v a (q : Int))) j (zI x) := by
  funext q
  by_cases h : q = j
  · subst h
    simp [zst, upd]
  · have h2 : ¬ (q : Int) = (j : Int) := by omega
    simp [zst, upd, h, h2]
theorem zwl_seta {ids : Nat → ClassId} {b o nn : Nat} {v : zHp} {a tg N j : Nat} {x : Int} (h1 : o ≤ a) (h2 : a < o + nn) (hk : zK a = (tg, N)) (h3 : 20 ≤ tg) (h4 : tg < 23) : (zwl ids b o nn v).set (a - o) (b + a, .inl (ids tg, N, .inl (upd (fun q : Nat => zI (v a (q : Int))) j (zI x)))) = zwl ids b o nn (zst v a (j : Int) x) := by
  refine zwl_set h1 h2 ?_ (fun q hq => zst_ne hq)
  rw [hk, zec_arr h3 h4, zst_row]
theorem z_iast (C : zC E nn cc own Ts) {a N : Nat} {i x : Int} (G : zG E nn a 20 N) (hN : N ≤ 2147483647) (h0 : 0 ≤ i) (hi : i < (N : Int)) (d : decode cc pc = .ok (.iastore, 1)) (kk : ∀ v1, v1 = zst v a i x → zX E k n nn v1 (pc + 1) lo st) : zX E k n nn v pc lo (zi x :: zi i :: zr a :: st) := by
  obtain ⟨hk, h1, h2⟩ := id G
  intro H locs ls hP hS hZ hl
  obtain ⟨hin, e, ei⟩ := zin h0 hi hN
  have hD : va_D (zEA E) (zwl (zEi E) (zEb E) (zEo E) nn v) := zwl_D C.2.2.2.2.2.2.2.2
  have ha : (zwl (zEi E) (zEb E) (zEo E) nn v)[a - zEo E]? = some (zEb E + a, .inl (zEi E 20, N, .inl fun q => zI (v a (q : Int)))) := by rw [zwl_at h1 h2, hk, zec_arr (by decide) (by decide)]
  refine W.iast C.1 C.2.1 (hP (a - zEo E) _ ha) ((C.2.2.2.2.1.2 0 _ rfl).1 N (fun j => .int (zI (v a (j : Int))))) (fun q => by cases q) (by show ¬ (_ ∨ (arrV _ _ _).slots.size ≤ _); rw [arrV_size]; exact hin) rfl rfl d fun H1 e1 z oq => ?_
  refine kk _ rfl H1 _ ls ?_ (hS.put z oq (hD.2 (a - zEo E) _ ha)) (fun y => by rw [z]; exact hZ y) hl
  rw [← ei, ← zwl_seta (x := x) h1 h2 hk (by decide) (by decide)]
  refine hP.set hD ha ?_ oq
  show H1[zEb E + a]? = some (vp_cell _ _)
  rw [e1, vp_cell_i, vp_cell_i, arrV_store, e]
  congr 2
  funext q
  by_cases hq : q = i.toNat
  · subst hq
    simp [updV, upd]
  · simp [updV, upd, hq]
theorem z_zast (C : zC E nn cc own Ts) {a N : Nat} {i x : Int} (G : zG E nn a 21 N) (hN : N ≤ 2147483647) (h0 : 0 ≤ i) (hi : i < (N : Int)) (hx : x = 0 ∨ x = 1) (d : decode cc pc = .ok (.bastore, 1)) (kk : ∀ v1, v1 = zst v a i x → zX E k n nn v1 (pc + 1) lo st) : zX E k n nn v pc lo (zi x :: zi i :: zr a :: st) := by
  obtain ⟨hk, h1, h2⟩ := id G
  intro H locs ls hP hS hZ hl
  obtain ⟨hin, e, ei⟩ := zin h0 hi hN
  have hD : va_D (zEA E) (zwl (zEi E) (zEb E) (zEo E) nn v) := zwl_D C.2.2.2.2.2.2.2.2
  have ha : (zwl (zEi E) (zEb E) (zEo E) nn v)[a - zEo E]? = some (zEb E + a, .inl (zEi E 21, N, .inl fun q => zI (v a (q : Int)))) := by rw [zwl_at h1 h2, hk, zec_arr (by decide) (by decide)]
  have hx1 : zI x &&& 1 = zI x := by rcases hx with rfl | rfl <;> decide
  refine W.zast C.1 C.2.1 (hP (a - zEo E) _ ha) ((C.2.2.2.2.1.2 1 _ rfl).1 N (fun j => .int (zI (v a (j : Int))))) (fun q => by cases q) (by show ¬ (_ ∨ (arrV _ _ _).slots.size ≤ _); rw [arrV_size]; exact hin) rfl rfl d fun H1 e1 z oq => ?_
  refine kk _ rfl H1 _ ls ?_ (hS.put z oq (hD.2 (a - zEo E) _ ha)) (fun y => by rw [z]; exact hZ y) hl
  rw [← ei, ← zwl_seta (x := x) h1 h2 hk (by decide) (by decide)]
  refine hP.set hD ha ?_ oq
  show H1[zEb E + a]? = some (vp_cell _ _)
  rw [e1, vp_cell_i, vp_cell_i, arrV_store, e]
  congr 2
  funext q
  by_cases hq : q = i.toNat
  · subst hq
    simp [updV, upd, narrow, hx1]
  · simp [updV, upd, hq]
theorem z_bast (C : zC E nn cc own Ts) {a N : Nat} {i x : Int} (G : zG E nn a 22 N) (hN : N ≤ 2147483647) (h0 : 0 ≤ i) (hi : i < (N : Int)) (hx : (zI x).toInt8.toInt32 = zI x) (d : decode cc pc = .ok (.bastore, 1)) (kk : ∀ v1, v1 = zst v a i x → zX E k n nn v1 (pc + 1) lo st) : zX E k n nn v pc lo (zi x :: zi i :: zr a :: st) := by
  obtain ⟨hk, h1, h2⟩ := id G
  intro H locs ls hP hS hZ hl
  obtain ⟨hin, e, ei⟩ := zin h0 hi hN
  have hD : va_D (zEA E) (zwl (zEi E) (zEb E) (zEo E) nn v) := zwl_D C.2.2.2.2.2.2.2.2
  have ha : (zwl (zEi E) (zEb E) (zEo E) nn v)[a - zEo E]? = some (zEb E + a, .inl (zEi E 22, N, .inl fun q => zI (v a (q : Int)))) := by rw [zwl_at h1 h2, hk, zec_arr (by decide) (by decide)]
  refine W.bast C.1 C.2.1 (hP (a - zEo E) _ ha) ((C.2.2.2.2.1.2 2 _ rfl).1 N (fun j => .int (zI (v a (j : Int))))) (fun q => by cases q) (by show ¬ (_ ∨ (arrV _ _ _).slots.size ≤ _); rw [arrV_size]; exact hin) rfl rfl d fun H1 e1 z oq => ?_
  refine kk _ rfl H1 _ ls ?_ (hS.put z oq (hD.2 (a - zEo E) _ ha)) (fun y => by rw [z]; exact hZ y) hl
  rw [← ei, ← zwl_seta (x := x) h1 h2 hk (by decide) (by decide)]
  refine hP.set hD ha ?_ oq
  show H1[zEb E + a]? = some (vp_cell _ _)
  rw [e1, vp_cell_i, vp_cell_i, arrV_store, e]
  congr 2
  funext q
  by_cases hq : q = i.toNat
  · subst hq
    simp [updV, upd, narrow, hx]
  · simp [updV, upd, hq]
end ZROWS2
