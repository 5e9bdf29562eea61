/-! the law's walk: over any list of things. By wip/whole/genlawrows.py. -/
def zY (E : zE) (k n : Nat) (ws : va_W) (pc : Nat) (lo : List (Option zAV)) (st : List zAV) : Prop :=
  ∀ (H : Heap) (locs : List Loc) (ls : Array Slot), va_P (zED E) vwCl ws H → va_S (zEA E) (zEH E) H locs → True → lv_has ls (zEN E) (zpr (zEb E) lo) →
    W (zEp E) (zEl E) (zEe E) (zER E) (zEs E) (zEm E) (zEa E) (zEbe E) (zEme E) (zEc E) H locs k n (zEQ E) (F0 (zEm E) pc ls (st.map (zxv (zEb E))))
section ZY
variable {E : zE} {nn : Nat} {cc : ByteArray} {own : String} {Ts : List Cond} {k n : Nat} {ws : va_W} {pc : Nat} {lo : List (Option zAV)} {st stk : List zAV}
theorem w_iconst (C : zC E nn cc own Ts) {i : Int} (d : decode cc pc = .ok (.iconst i, 1)) (kk : zY E k n ws (pc + 1) lo (zi i :: st)) : zY E k n ws pc lo st :=
  fun H locs ls hP hS hZ hl => lv_iconst C.1 C.2.1 d rfl (kk H locs ls hP hS hZ hl)
theorem w_bipush (C : zC E nn cc own Ts) {i : Int} (hi : (Int8.ofInt i).toInt32 = zI i) (d : decode cc pc = .ok (.bipush i, 2)) (kk : zY E k n ws (pc + 2) lo (zi i :: st)) : zY E k n ws pc lo st :=
  fun H locs ls hP hS hZ hl => lv_bipush C.1 C.2.1 d hi (kk H locs ls hP hS hZ hl)
theorem w_iload_n (C : zC E nn cc own Ts) {q : Fin 4} (d : decode cc pc = .ok (.iload_n q, 1)) {x : Int} (h : lo[(q : Nat)]? = some (some (zi x))) (kk : zY E k n ws (pc + 1) lo (zi x :: st)) : zY E k n ws pc lo st :=
  fun H locs ls hP hS hZ hl => lv_iload_n C.1 C.2.1 d rfl (z_at hl h) (kk H locs ls hP hS hZ hl)
theorem w_iload (C : zC E nn cc own Ts) {i : Nat} (d : decode cc pc = .ok (.iload i, 2)) {x : Int} (h : lo[i]? = some (some (zi x))) (kk : zY E k n ws (pc + 2) lo (zi x :: st)) : zY E k n ws pc lo st :=
  fun H locs ls hP hS hZ hl => lv_iload C.1 C.2.1 d (z_at hl h) (kk H locs ls hP hS hZ hl)
theorem w_aload_n (C : zC E nn cc own Ts) {q : Fin 4} (d : decode cc pc = .ok (.aload_n q, 1)) {a : Nat} (h : lo[(q : Nat)]? = some (some (zr a))) (kk : zY E k n ws (pc + 1) lo (zr a :: st)) : zY E k n ws pc lo st :=
  fun H locs ls hP hS hZ hl => lv_aload_n C.1 C.2.1 d rfl (z_at hl h) (kk H locs ls hP hS hZ hl)
theorem w_istore_n (C : zC E nn cc own Ts) {q : Fin 4} {x : Int} (d : decode cc pc = .ok (.istore_n q, 1)) (hN : (q : Nat) < zEN E) (kk : zY E k n ws (pc + 1) (lo.set q (some (zi x))) st) : zY E k n ws pc lo (zi x :: st) :=
  fun H locs ls hP hS hZ hl => lv_istore_n C.1 C.2.1 d rfl hl hN rfl fun ls' h => kk H locs ls' hP hS hZ (z_put h)
theorem w_istore (C : zC E nn cc own Ts) {i : Nat} {x : Int} (d : decode cc pc = .ok (.istore i, 2)) (hN : i < zEN E) (kk : zY E k n ws (pc + 2) (lo.set i (some (zi x))) st) : zY E k n ws pc lo (zi x :: st) :=
  fun H locs ls hP hS hZ hl => lv_istore C.1 C.2.1 d hl hN rfl fun ls' h => kk H locs ls' hP hS hZ (z_put h)
theorem w_astore_n (C : zC E nn cc own Ts) {q : Fin 4} {a : Nat} (d : decode cc pc = .ok (.astore_n q, 1)) (hN : (q : Nat) < zEN E) (kk : zY E k n ws (pc + 1) (lo.set q (some (zr a))) st) : zY E k n ws pc lo (zr a :: st) :=
  fun H locs ls hP hS hZ hl => lv_astore_n C.1 C.2.1 d rfl hl hN rfl fun ls' h => kk H locs ls' hP hS hZ (z_put (x := zr a) h)
theorem w_iinc (C : zC E nn cc own Ts) {i : Nat} {m x : Int} (d : decode cc pc = .ok (.iinc i m, 3)) (hN : i < zEN E) (h : lo[i]? = some (some (zi x))) (kk : zY E k n ws (pc + 3) (lo.set i (some (zi (x + m)))) st) : zY E k n ws pc lo st := by
  intro H locs ls hP hS hZ hl
  obtain ⟨p, hp⟩ := List.getElem?_of_mem (zpr_mem.mpr ⟨_, h, rfl⟩ : (i, zxv (zEb E) (zi x)) ∈ zpr (zEb E) lo)
  refine lv_iinc (k := p) (x := zI x) (v := zI (x + m)) C.1 C.2.1 d hl hp (zI_add x m) hN rfl fun ls' h => kk H locs ls' hP hS hZ (z_put (x := zi (x + m)) h)
theorem w_iadd (C : zC E nn cc own Ts) {x y : Int} (d : decode cc pc = .ok (.iadd, 1)) (kk : zY E k n ws (pc + 1) lo (zi (x + y) :: st)) : zY E k n ws pc lo (zi y :: zi x :: st) := by
  intro H locs ls hP hS hZ hl
  refine lv_iadd C.1 C.2.1 d ?_
  rw [zI_add]
  exact kk H locs ls hP hS hZ hl
theorem w_isub (C : zC E nn cc own Ts) {x y : Int} (d : decode cc pc = .ok (.isub, 1)) (kk : zY E k n ws (pc + 1) lo (zi (x - y) :: st)) : zY E k n ws pc lo (zi y :: zi x :: st) := by
  intro H locs ls hP hS hZ hl
  refine lv_isub C.1 C.2.1 d ?_
  rw [zI_sub]
  exact kk H locs ls hP hS hZ hl
theorem w_iand (C : zC E nn cc own Ts) {x y : Int} (d : decode cc pc = .ok (.iand, 1)) (kk : zY E k n ws (pc + 1) lo (zi (zand x y) :: st)) : zY E k n ws pc lo (zi y :: zi x :: st) := by
  intro H locs ls hP hS hZ hl
  refine lv_iand C.1 C.2.1 d ?_
  rw [← zI_toInt (zI x &&& zI y)]
  exact kk H locs ls hP hS hZ hl
theorem w_n0 {x y : Int} (h : zI x = zI y) (kk : zY E k n ws pc lo (zi y :: st)) : zY E k n ws pc lo (zi x :: st) := by
  intro H locs ls hP hS hZ hl
  have := kk H locs ls hP hS hZ hl
  simpa only [List.map_cons, zxv, h] using this
theorem w_n1 {x y : Int} {a : zAV} (h : zI x = zI y) (kk : zY E k n ws pc lo (a :: zi y :: st)) : zY E k n ws pc lo (a :: zi x :: st) := by
  intro H locs ls hP hS hZ hl
  have := kk H locs ls hP hS hZ hl
  simpa only [List.map_cons, zxv, h] using this
theorem w_n2 {x y : Int} {a b : zAV} (h : zI x = zI y) (kk : zY E k n ws pc lo (a :: b :: zi y :: st)) : zY E k n ws pc lo (a :: b :: zi x :: st) := by
  intro H locs ls hP hS hZ hl
  have := kk H locs ls hP hS hZ hl
  simpa only [List.map_cons, zxv, h] using this
theorem w_sub {lo' : List (Option zAV)} (hs : zsub lo' lo) (kk : zY E k n ws pc lo' st) : zY E k n ws pc lo st :=
  fun H locs ls hP hS hZ hl => kk H locs ls hP hS hZ ⟨hl.1, hl.2.1, fun q hq => by
    obtain ⟨x, h1, h2⟩ := zpr_mem.mp hq
    exact hl.2.2 q (zpr_mem.mpr ⟨x, zsub_at hs _ _ h1, h2⟩)⟩
theorem w_goto (C : zC E nn cc own Ts) {off : Int} {tgt : Nat} (d : decode cc pc = .ok (.goto off, 3)) (ht : (pc : Int) + off = (tgt : Int)) (kk : zY E k n ws tgt lo st) : zY E k n ws pc lo st :=
  fun H locs ls hP hS hZ hl => lv_goto C.1 C.2.1 d ht (kk H locs ls hP hS hZ hl)
theorem w_dup (C : zC E nn cc own Ts) {x : zAV} (d : decode cc pc = .ok (.dup, 1)) (kk : zY E k n ws (pc + 1) lo (x :: x :: st)) : zY E k n ws pc lo (x :: st) :=
  fun H locs ls hP hS hZ hl => lv_dup C.1 C.2.1 d (zxv_cat _ x) (kk H locs ls hP hS hZ hl)
theorem w_if_eq (C : zC E nn cc own Ts) {x : Int} {off : Int} {tgt : Nat} {α : Type} {X Y : Option α} {res : α} (hx : zR x) (d : decode cc pc = .ok (.ifCond .eq off, 3)) (ht : (pc : Int) + off = (tgt : Int)) (h : (if x = 0 then X else Y) = some res) (kt : X = some res → zY E k n ws tgt lo st) (kf : Y = some res → zY E k n ws (pc + 3) lo st) : zY E k n ws pc lo (zi x :: st) :=
  fun H locs ls hP hS hZ hl => lv_if_eq C.1 C.2.1 d ht (fun c => kt (by rw [if_pos ((zI_eq hx zR_0).mp c)] at h; exact h) H locs ls hP hS hZ hl) (fun c => kf (by rw [if_neg (fun q => c ((zI_eq hx zR_0).mpr q))] at h; exact h) H locs ls hP hS hZ hl)
theorem w_if_ne (C : zC E nn cc own Ts) {x : Int} {off : Int} {tgt : Nat} {α : Type} {X Y : Option α} {res : α} (hx : zR x) (d : decode cc pc = .ok (.ifCond .ne off, 3)) (ht : (pc : Int) + off = (tgt : Int)) (h : (if x ≠ 0 then X else Y) = some res) (kt : X = some res → zY E k n ws tgt lo st) (kf : Y = some res → zY E k n ws (pc + 3) lo st) : zY E k n ws pc lo (zi x :: st) :=
  fun H locs ls hP hS hZ hl => lv_if_ne C.1 C.2.1 d ht (fun c => kt (by rw [if_pos ((not_congr (zI_eq hx zR_0)).mp c)] at h; exact h) H locs ls hP hS hZ hl) (fun c => kf (by rw [if_neg (fun q => q ((zI_eq hx zR_0).mp c))] at h; exact h) H locs ls hP hS hZ hl)
theorem w_if_lt (C : zC E nn cc own Ts) {x : Int} {off : Int} {tgt : Nat} {α : Type} {X Y : Option α} {res : α} (hx : zR x) (d : decode cc pc = .ok (.ifCond .lt off, 3)) (ht : (pc : Int) + off = (tgt : Int)) (h : (if x < 0 then X else Y) = some res) (kt : X = some res → zY E k n ws tgt lo st) (kf : Y = some res → zY E k n ws (pc + 3) lo st) : zY E k n ws pc lo (zi x :: st) :=
  fun H locs ls hP hS hZ hl => lv_if_lt C.1 C.2.1 d ht (fun c => kt (by rw [if_pos ((zI_lt hx zR_0).mp c)] at h; exact h) H locs ls hP hS hZ hl) (fun c => kf (by rw [if_neg (fun q => c ((zI_lt hx zR_0).mpr q))] at h; exact h) H locs ls hP hS hZ hl)
theorem w_if_ge (C : zC E nn cc own Ts) {x : Int} {off : Int} {tgt : Nat} {α : Type} {X Y : Option α} {res : α} (hx : zR x) (d : decode cc pc = .ok (.ifCond .ge off, 3)) (ht : (pc : Int) + off = (tgt : Int)) (h : (if 0 ≤ x then X else Y) = some res) (kt : X = some res → zY E k n ws tgt lo st) (kf : Y = some res → zY E k n ws (pc + 3) lo st) : zY E k n ws pc lo (zi x :: st) :=
  fun H locs ls hP hS hZ hl => lv_if_ge C.1 C.2.1 d ht (fun c => kt (by rw [if_pos ((zI_le zR_0 hx).mp c)] at h; exact h) H locs ls hP hS hZ hl) (fun c => kf (by rw [if_neg (fun q => c ((zI_le zR_0 hx).mpr q))] at h; exact h) H locs ls hP hS hZ hl)
theorem w_if_gt (C : zC E nn cc own Ts) {x : Int} {off : Int} {tgt : Nat} {α : Type} {X Y : Option α} {res : α} (hx : zR x) (d : decode cc pc = .ok (.ifCond .gt off, 3)) (ht : (pc : Int) + off = (tgt : Int)) (h : (if 0 < x then X else Y) = some res) (kt : X = some res → zY E k n ws tgt lo st) (kf : Y = some res → zY E k n ws (pc + 3) lo st) : zY E k n ws pc lo (zi x :: st) :=
  fun H locs ls hP hS hZ hl => lv_if_gt C.1 C.2.1 d ht (fun c => kt (by rw [if_pos ((zI_lt zR_0 hx).mp c)] at h; exact h) H locs ls hP hS hZ hl) (fun c => kf (by rw [if_neg (fun q => c ((zI_lt zR_0 hx).mpr q))] at h; exact h) H locs ls hP hS hZ hl)
theorem w_if_le (C : zC E nn cc own Ts) {x : Int} {off : Int} {tgt : Nat} {α : Type} {X Y : Option α} {res : α} (hx : zR x) (d : decode cc pc = .ok (.ifCond .le off, 3)) (ht : (pc : Int) + off = (tgt : Int)) (h : (if x ≤ 0 then X else Y) = some res) (kt : X = some res → zY E k n ws tgt lo st) (kf : Y = some res → zY E k n ws (pc + 3) lo st) : zY E k n ws pc lo (zi x :: st) :=
  fun H locs ls hP hS hZ hl => lv_if_le C.1 C.2.1 d ht (fun c => kt (by rw [if_pos ((zI_le hx zR_0).mp c)] at h; exact h) H locs ls hP hS hZ hl) (fun c => kf (by rw [if_neg (fun q => c ((zI_le hx zR_0).mpr q))] at h; exact h) H locs ls hP hS hZ hl)
theorem w_icmp_eq (C : zC E nn cc own Ts) {x y : Int} {off : Int} {tgt : Nat} {α : Type} {X Y : Option α} {res : α} (hx : zR x) (hy : zR y) (d : decode cc pc = .ok (.if_icmp .eq off, 3)) (ht : (pc : Int) + off = (tgt : Int)) (h : (if x = y then X else Y) = some res) (kt : X = some res → zY E k n ws tgt lo st) (kf : Y = some res → zY E k n ws (pc + 3) lo st) : zY E k n ws pc lo (zi y :: zi x :: st) :=
  fun H locs ls hP hS hZ hl => lv_icmp_eq C.1 C.2.1 d ht (fun c => kt (by rw [if_pos ((zI_eq hx hy).mp c)] at h; exact h) H locs ls hP hS hZ hl) (fun c => kf (by rw [if_neg (fun q => c ((zI_eq hx hy).mpr q))] at h; exact h) H locs ls hP hS hZ hl)
theorem w_icmp_ne (C : zC E nn cc own Ts) {x y : Int} {off : Int} {tgt : Nat} {α : Type} {X Y : Option α} {res : α} (hx : zR x) (hy : zR y) (d : decode cc pc = .ok (.if_icmp .ne off, 3)) (ht : (pc : Int) + off = (tgt : Int)) (h : (if x ≠ y then X else Y) = some res) (kt : X = some res → zY E k n ws tgt lo st) (kf : Y = some res → zY E k n ws (pc + 3) lo st) : zY E k n ws pc lo (zi y :: zi x :: st) :=
  fun H locs ls hP hS hZ hl => lv_icmp_ne C.1 C.2.1 d ht (fun c => kt (by rw [if_pos ((not_congr (zI_eq hx hy)).mp c)] at h; exact h) H locs ls hP hS hZ hl) (fun c => kf (by rw [if_neg (fun q => q ((zI_eq hx hy).mp c))] at h; exact h) H locs ls hP hS hZ hl)
theorem w_icmp_lt (C : zC E nn cc own Ts) {x y : Int} {off : Int} {tgt : Nat} {α : Type} {X Y : Option α} {res : α} (hx : zR x) (hy : zR y) (d : decode cc pc = .ok (.if_icmp .lt off, 3)) (ht : (pc : Int) + off = (tgt : Int)) (h : (if x < y then X else Y) = some res) (kt : X = some res → zY E k n ws tgt lo st) (kf : Y = some res → zY E k n ws (pc + 3) lo st) : zY E k n ws pc lo (zi y :: zi x :: st) :=
  fun H locs ls hP hS hZ hl => lv_icmp_lt C.1 C.2.1 d ht (fun c => kt (by rw [if_pos ((zI_lt hx hy).mp c)] at h; exact h) H locs ls hP hS hZ hl) (fun c => kf (by rw [if_neg (fun q => c ((zI_lt hx hy).mpr q))] at h; exact h) H locs ls hP hS hZ hl)
theorem w_icmp_ge (C : zC E nn cc own Ts) {x y : Int} {off : Int} {tgt : Nat} {α : Type} {X Y : Option α} {res : α} (hx : zR x) (hy : zR y) (d : decode cc pc = .ok (.if_icmp .ge off, 3)) (ht : (pc : Int) + off = (tgt : Int)) (h : (if y ≤ x then X else Y) = some res) (kt : X = some res → zY E k n ws tgt lo st) (kf : Y = some res → zY E k n ws (pc + 3) lo st) : zY E k n ws pc lo (zi y :: zi x :: st) :=
  fun H locs ls hP hS hZ hl => lv_icmp_ge C.1 C.2.1 d ht (fun c => kt (by rw [if_pos ((zI_le hy hx).mp c)] at h; exact h) H locs ls hP hS hZ hl) (fun c => kf (by rw [if_neg (fun q => c ((zI_le hy hx).mpr q))] at h; exact h) H locs ls hP hS hZ hl)
theorem w_icmp_gt (C : zC E nn cc own Ts) {x y : Int} {off : Int} {tgt : Nat} {α : Type} {X Y : Option α} {res : α} (hx : zR x) (hy : zR y) (d : decode cc pc = .ok (.if_icmp .gt off, 3)) (ht : (pc : Int) + off = (tgt : Int)) (h : (if y < x then X else Y) = some res) (kt : X = some res → zY E k n ws tgt lo st) (kf : Y = some res → zY E k n ws (pc + 3) lo st) : zY E k n ws pc lo (zi y :: zi x :: st) :=
  fun H locs ls hP hS hZ hl => lv_icmp_gt C.1 C.2.1 d ht (fun c => kt (by rw [if_pos ((zI_lt hy hx).mp c)] at h; exact h) H locs ls hP hS hZ hl) (fun c => kf (by rw [if_neg (fun q => c ((zI_lt hy hx).mpr q))] at h; exact h) H locs ls hP hS hZ hl)
theorem w_icmp_le (C : zC E nn cc own Ts) {x y : Int} {off : Int} {tgt : Nat} {α : Type} {X Y : Option α} {res : α} (hx : zR x) (hy : zR y) (d : decode cc pc = .ok (.if_icmp .le off, 3)) (ht : (pc : Int) + off = (tgt : Int)) (h : (if x ≤ y then X else Y) = some res) (kt : X = some res → zY E k n ws tgt lo st) (kf : Y = some res → zY E k n ws (pc + 3) lo st) : zY E k n ws pc lo (zi y :: zi x :: st) :=
  fun H locs ls hP hS hZ hl => lv_icmp_le C.1 C.2.1 d ht (fun c => kt (by rw [if_pos ((zI_le hx hy).mp c)] at h; exact h) H locs ls hP hS hZ hl) (fun c => kf (by rw [if_neg (fun q => c ((zI_le hx hy).mpr q))] at h; exact h) H locs ls hP hS hZ hl)
theorem w_nk (dep : Nat) {x y : Int} (h : zI x = zI y) (hk : stk[dep]? = some (zi x)) (kk : zY E k n ws pc lo (stk.set dep (zi y))) : zY E k n ws pc lo stk := by
  intro H locs ls hP hS hZ hl
  have := kk H locs ls hP hS hZ hl
  have e : (stk.set dep (zi y)).map (zxv (zEb E)) = stk.map (zxv (zEb E)) := by
    rw [List.map_set]
    refine List.ext_getElem? fun i => ?_
    by_cases hi : i = dep
    · subst hi
      rw [List.getElem?_set_self (by rw [List.length_map]; exact (List.getElem?_eq_some_iff.mp hk).1), List.getElem?_map, hk]
      simp [zxv, h]
    · rw [List.getElem?_set_ne (Ne.symm hi)]
  rwa [e] at this
theorem w_tblIn (C : zC E nn cc own Ts) {dflt lw hi : Int} {offs : Array Int} {len : Nat} {x c off : Int} {tgt : Nat} (hx : zR x) (e : x = c) (d : decode cc pc = .ok (.tableswitch dflt lw hi offs, len)) (h1 : ¬ c < lw) (h2 : ¬ hi < c) (ho : offs[(c - lw).toNat]? = some off) (ht : (pc : Int) + off = (tgt : Int)) (kk : zY E k n ws tgt lo st) : zY E k n ws pc lo (zi x :: st) := by
  subst e
  intro H locs ls hP hS hZ hl
  have hxv : (zI x).toInt = x := zw_id hx
  exact lv_tableIn C.1 C.2.1 d (by rw [hxv]; exact h1) (by rw [hxv]; exact h2) (by rw [hxv]; exact ho) ht (kk H locs ls hP hS hZ hl)
theorem w_tblOut (C : zC E nn cc own Ts) {dflt lw hi : Int} {offs : Array Int} {len : Nat} {x : Int} {tgt : Nat} (hx : zR x) (e : x < lw ∨ hi < x) (d : decode cc pc = .ok (.tableswitch dflt lw hi offs, len)) (ht : (pc : Int) + dflt = (tgt : Int)) (kk : zY E k n ws tgt lo st) : zY E k n ws pc lo (zi x :: st) := by
  intro H locs ls hP hS hZ hl
  have hxv : (zI x).toInt = x := zw_id hx
  exact lv_tableOut C.1 C.2.1 d (by rw [hxv]; exact e) ht (kk H locs ls hP hS hZ hl)
theorem w_iincE (C : zC E nn cc own Ts) {i : Nat} {m x t : Int} (d : decode cc pc = .ok (.iinc i m, 3)) (hN : i < zEN E) (h : lo[i]? = some (some (zi x))) (e : t = x + m) (kk : zY E k n ws (pc + 3) (lo.set i (some (zi t))) st) : zY E k n ws pc lo st := by
  subst e
  exact w_iinc C d hN h kk
theorem w_aloadS_n (C : zC E nn cc own Ts) {q : Fin 4} (d : decode cc pc = .ok (.aload_n q, 1)) {a : Nat} (h : lo[(q : Nat)]? = some (some (zs a))) (kk : zY E k n ws (pc + 1) lo (zs a :: st)) : zY E k n ws pc lo st :=
  fun H locs ls hP hS hZ hl => lv_aload_n C.1 C.2.1 d rfl (z_at hl h) (kk H locs ls hP hS hZ hl)
theorem w_aloadS (C : zC E nn cc own Ts) {i : Nat} (d : decode cc pc = .ok (.aload i, 2)) {a : Nat} (h : lo[i]? = some (some (zs a))) (kk : zY E k n ws (pc + 2) lo (zs a :: st)) : zY E k n ws pc lo st :=
  fun H locs ls hP hS hZ hl => lv_aload C.1 C.2.1 d (z_at hl h) (kk H locs ls hP hS hZ hl)
theorem w_astoreS_n (C : zC E nn cc own Ts) {q : Fin 4} {a : Nat} (d : decode cc pc = .ok (.astore_n q, 1)) (hN : (q : Nat) < zEN E) (kk : zY E k n ws (pc + 1) (lo.set q (some (zs a))) st) : zY E k n ws pc lo (zs a :: st) :=
  fun H locs ls hP hS hZ hl => lv_astore_n C.1 C.2.1 d rfl hl hN rfl fun ls' h => kk H locs ls' hP hS hZ (z_put (x := zs a) h)
theorem w_astoreS (C : zC E nn cc own Ts) {i : Nat} {a : Nat} (d : decode cc pc = .ok (.astore i, 2)) (hN : i < zEN E) (kk : zY E k n ws (pc + 2) (lo.set i (some (zs a))) st) : zY E k n ws pc lo (zs a :: st) :=
  fun H locs ls hP hS hZ hl => lv_astore C.1 C.2.1 d hl hN rfl fun ls' h => kk H locs ls' hP hS hZ (z_put (x := zs a) h)
theorem w_widen {k' n' : Nat} (h1 : k ≤ k') (h2 : n ≤ n') (kk : zY E k' n' ws pc lo st) : zY E k n ws pc lo st :=
  fun H locs ls hP hS hZ hl => W.widen h1 h2 (kk H locs ls hP hS hZ hl)
/-- a number out of a row of ints -/
theorem w_iald (C : zC E nn cc own Ts) {q N a : Nat} {g : Nat → Int32} (ha : ws[q]? = some (a, .inl (zEi E 20, N, .inl g))) {i : Int} (hN : N ≤ 2147483647) (qi : 0 ≤ i ∧ i < (N : Int)) (d : decode cc pc = .ok (.iaload, 1)) (kk : zY E k n ws (pc + 1) lo (zi (g i.toNat).toInt :: st)) : zY E k n ws pc lo (zi i :: zs a :: st) := by
  intro H locs ls hP hS hZ hl
  obtain ⟨hin, e, ei⟩ := zin qi.1 qi.2 hN
  refine va_iald C.1 C.2.1 C.2.2.2.2.1 hP q 0 ha rfl hin d ?_
  have := kk H locs ls hP hS hZ hl
  rw [List.map_cons] at this
  have e2 : zxv (zEb E) (zi (g i.toNat).toInt) = .int (g (zI i).toNatClampNeg) := by
    show Value.int (zI (g i.toNat).toInt) = _
    rw [zI_toInt, e]
  rw [e2] at this
  exact this
theorem w_alen (C : zC E nn cc own Ts) {q N a : Nat} {g : Nat → Int32} (ha : ws[q]? = some (a, .inl (zEi E 20, N, .inl g))) (hN : N ≤ 2147483647) (d : decode cc pc = .ok (.arraylength, 1)) (kk : zY E k n ws (pc + 1) lo (zi (N : Int) :: st)) : zY E k n ws pc lo (zs a :: st) := by
  intro H locs ls hP hS hZ hl
  exact va_alen C.1 C.2.1 C.2.2.2.2.1 hP q 0 ha (ty := .int) rfl (show Int32.ofNat N = zI (N : Int) by unfold zI; exact (Int32.ofInt_eq_ofNat).symm) d (kk H locs ls hP hS hZ hl)
/-- 'row[0] = (long) x' -/
theorem w_last (C : zC E nn cc own Ts) {idJ : ClassId} {tys : List (ClassId × FieldType)} (hK : va_K (zED E) vwCl tys (zEs E)) {t0 : Nat} (ht : tys[t0]? = some (idJ, .long)) {q a : Nat} {g : Nat → Int64} (ha : ws[q]? = some (a, .inl (idJ, 1, .inr (.inl g)))) (hD : va_D (zEA E) ws) {x : Int} (d1 : decode cc pc = .ok (.i2l, 1)) (d2 : decode cc (pc + 1) = .ok (.lastore, 1))
    (kk : zY E k n (ws.set q (a, .inl (idJ, 1, .inr (.inl (vp_updL g 0 (zI x).toInt64))))) (pc + 2) lo st) : zY E k n ws pc lo (zi x :: zi 0 :: zs a :: st) := by
  intro H locs ls hP hS hZ hl
  refine lv_i2l C.1 C.2.1 d1 rfl ?_
  obtain ⟨hin, e, ei⟩ := zin (i := 0) (N := 1) (by decide) (by decide) (by decide)
  refine va_last C.1 C.2.1 hK hP hD hS q t0 ha ht hin d2 fun H1 locs1 h1 h2 h3 => ?_
  rw [e] at h1
  exact kk H1 locs1 ls h1 h3 hZ hl
theorem w_lcmp {p : Program} {l : Launch} {e : Env} {R : Room} {s : State} {m : MethodId} {args : Array Value} {below : List Frame} {meth : Method} {c : Code} {H : Heap} {locs : List Loc} {cells slots : Nat} {Q : State → Prop} {ls : Array Slot} {rest : List Value} (hexec : p.tables.exec = Jvm.exec) (hb : c.code = cc) {x : Int64} (hdg : decode cc pc = .ok (.lcmp, 1))
    (k : W p l e R s m args below meth c H locs cells slots Q (F0 m (pc + 1) ls (.int 0 :: rest))) : W p l e R s m args below meth c H locs cells slots Q (F0 m pc ls (.long x :: .long x :: rest)) := by
  intro T hT X
  obtain ⟨t, a, b⟩ := k T hT X
  refine ⟨t, ?_, b⟩
  jvm_step X.here [X.here.top, hexec, hb, hdg]
  exact a
/-- 'row[0] != x', where they are equal -/
theorem w_lsame (C : zC E nn cc own Ts) {idJ : ClassId} {tys : List (ClassId × FieldType)} (hK : va_K (zED E) vwCl tys (zEs E)) {t0 : Nat} (ht : tys[t0]? = some (idJ, .long)) {q a i : Nat} {g : Nat → Int64} (ha : ws[q]? = some (a, .inl (idJ, 1, .inr (.inl g)))) {x : Int} (hx : g 0 = (zI x).toInt64) (h : lo[i]? = some (some (zi x))) (d1 : decode cc pc = .ok (.laload, 1)) (d2 : decode cc (pc + 1) = .ok (.iload i, 2)) (d3 : decode cc (pc + 3) = .ok (.i2l, 1)) (d4 : decode cc (pc + 4) = .ok (.lcmp, 1))
    (kk : zY E k n ws (pc + 5) lo (zi 0 :: st)) : zY E k n ws pc lo (zi 0 :: zs a :: st) := by
  intro H locs ls hP hS hZ hl
  obtain ⟨hin, e, ei⟩ := zin (i := 0) (N := 1) (by decide) (by decide) (by decide)
  refine va_lald C.1 C.2.1 hK hP q t0 ha ht hin d1 ?_
  rw [e]
  show W _ _ _ _ _ _ _ _ _ _ _ _ _ _ _ (F0 _ _ _ (.long (g 0) :: _))
  rw [hx]
  exact lv_iload C.1 C.2.1 d2 (z_at hl h) (lv_i2l C.1 C.2.1 d3 rfl (w_lcmp C.1 C.2.1 d4 (kk H locs ls hP hS hZ hl)))
/-! the parts of a list -/
theorem wP_A {D : va_G} {A B Z : va_W} {H : Heap} (h : va_P D vwCl (A ++ (Z ++ B)) H) : va_P D vwCl A H := fun j x hx => h j x (by rw [List.getElem?_append_left (List.getElem?_eq_some_iff.mp hx).1]; exact hx)
theorem wP_Z {D : va_G} {A B Z : va_W} {H : Heap} (h : va_P D vwCl (A ++ (Z ++ B)) H) : va_P D vwCl Z H := fun j x hx => h (A.length + j) x (by rw [List.getElem?_append_right (by omega), show A.length + j - A.length = j by omega, List.getElem?_append_left (List.getElem?_eq_some_iff.mp hx).1]; exact hx)
theorem wP_B {D : va_G} {A B Z : va_W} {H : Heap} (h : va_P D vwCl (A ++ (Z ++ B)) H) : va_P D vwCl B H := fun j x hx => h (A.length + (Z.length + j)) x (by rw [List.getElem?_append_right (by omega), show A.length + (Z.length + j) - A.length = Z.length + j by omega, List.getElem?_append_right (by omega), show Z.length + j - Z.length = j by omega]; exact hx)
theorem wP_keep {D : va_G} {B : va_W} {H H1 : Heap} {b o nw : Nat} (h : va_P D vwCl B H) (hB : ∀ q ∈ B, ¬ (b + o ≤ q.1 ∧ q.1 < b + (o + nw))) (hk : ∀ q : Nat, q < H.size → ¬ zA b o nw H.size q → H1[q]? = H[q]?) : va_P D vwCl B H1 := fun j x hx => (h j x hx).kept (hk x.1 (h j x hx).lt (fun hz => hz.elim (fun g => hB x (List.mem_of_getElem? hx) g) (fun g => by have := (h j x hx).lt; omega)))
theorem wP_join {D : va_G} {A B Z Z1 : va_W} {H H1 : Heap} {b o nw : Nat} (h : va_P D vwCl (A ++ (Z ++ B)) H) (hAB : ∀ q ∈ A ++ B, ¬ (b + o ≤ q.1 ∧ q.1 < b + (o + nw))) (hk : ∀ q : Nat, q < H.size → ¬ zA b o nw H.size q → H1[q]? = H[q]?) (hZ : va_P D vwCl Z1 H1) : va_P D vwCl (A ++ (Z1 ++ B)) H1 :=
  va_P.app (wP_keep (wP_A h) (fun q hq => hAB q (List.mem_append_left _ hq)) hk) (va_P.app hZ (wP_keep (wP_B h) (fun q hq => hAB q (List.mem_append_right _ hq)) hk))
theorem w_cat {b : Nat} {st : List zAV} (h : st.length ≤ 8) : ((st.map (zxv b)).map fun v => v.category).sum ≤ 8 := by
  have e : ∀ l : List zAV, ((l.map (zxv b)).map fun v => v.category).sum = l.length := by
    intro l
    induction l with
    | nil => rfl
    | cons x t ih => simp only [List.map_cons, List.sum_cons, List.length_cons, zxv_cat, ih]; omega
  rw [e]; exact h
theorem w_callV (C : zC E nn cc own Ts) {o nw : Nat} {R' : Room} (hRm : zER E = R') {A B : va_W} (hAB : ∀ q ∈ A ++ B, ¬ (zEb E + o ≤ q.1 ∧ q.1 < zEb E + (o + nw))) (hcov : ∀ i, i < nw → (zEA E) (zEb E + (o + i))) {y : MethodName} {wsy ws' : List Cond} {rm : Room} {a ci NN idx nA maxL mc ms k' n' : Nat} {Cn : String} {T : u_T} {bytes : ByteArray} {ret' : Option FieldType} {As : List zAV} {Pf : Prop} {ret : Option zAV} {v v1 : zHp}
    (M : zCT (zEl E) y wsy rm (zED E) (zEi E) (zEb E) o False nw (zr a :: As) v nw Pf ret v1 mc ms) (hka : zK a = (ci, NN)) (h1 : o ≤ a) (h2 : a < o + nw) (hci : ci < 20) (hc : vwCl[ci]? = some (Cn, T, NN)) (hG : GoodIn Ts (wsV own idx Cn y wsy)) (hw : wsy = .code y bytes maxL ret' :: ws')
    (hd : y.cls = Cn ∧ y.cls ≠ "java/lang/invoke/MethodHandle" ∧ y.cls ≠ "java/lang/invoke/VarHandle" ∧ (parseMethodDescriptor y.desc).map (fun d => d.parameters.length) = some nA) (hn : As.length = nA) (hR0 : rm.cells = mc ∧ rm.slots = ms) (hR : rm.frames + 1 ≤ R'.frames ∧ 8 + (maxL + 11) + rm.locals ≤ R'.locals) (hKn : k + mc = k' ∧ n + ms = n') (hF : k' ≤ R'.cells ∧ n' ≤ R'.slots) (st : List zAV) (hst : stk = As.reverse ++ zr a :: st) (hl8 : st.length ≤ 8) (d : decode cc pc = .ok (.invokevirtual idx, 3))
    (stk' : List zAV) (hs' : ret.toList ++ st = stk') (kk : Pf → zY E k' n' (A ++ (zwl (zEi E) (zEb E) o nw v1 ++ B)) (pc + 3) lo stk') : zY E k n (A ++ (zwl (zEi E) (zEb E) o nw v ++ B)) pc lo stk := by
  subst hRm hst hs'
  obtain ⟨rfl, rfl⟩ := hKn
  intro H locs ls hP hS hZ hl
  obtain ⟨hx, hb, hown, hts, hK, hlocks, hml, hA, hAn⟩ := id C
  have hcat := w_cat (b := zEb E) hl8
  have hmap : (As.reverse ++ zr a :: st).map (zxv (zEb E)) = (As.map (zxv (zEb E))).reverse ++ .ref (zEb E + a) :: st.map (zxv (zEb E)) := by simp [zxv]
  rw [hmap]
  have hAA : ∀ q, zA (zEb E) o nw H.size q → (zEA E) q := by
    intro q hq
    rcases hq with ⟨h1, h2⟩ | h1
    · have := hcov (q - zEb E - o) (by omega)
      have e : zEb E + (o + (q - zEb E - o)) = q := by omega
      rwa [e] at this
    · exact hA q (Nat.le_trans hS.1 h1)
  have hr := va_runV (p := zEp E) (l := zEl E) (e := zEe E) (R := zER E) (below := zEbe E) (meth := zEme E) (locs := locs) (cells := k) (slots := n) (g := F0 (zEm E) pc ls ((As.map (zxv (zEb E))).reverse ++ .ref (zEb E + a) :: st.map (zxv (zEb E)))) ⟨hx, hb, hml, hown, hts⟩ (M H.size) (cwV nA hts hG hw hR0.1 hR0.2 hd hR) ⟨zPre_blind, va_recv hK (wP_Z hP) hc (q0 := a - o) (by rw [zwl_at h1 h2, hka, zec_obj hci]), fun U hU hW => ⟨rfl, by rw [hU], ⟨by rw [hU]; exact wP_Z hP, va_K.moved hW.alike hK, fun z => z.elim⟩⟩⟩ rfl (by simpa using hn) hl.1 rfl (lv_room hcat) d hF
  intro T hT X
  obtain ⟨v', st₀, t, T', L, h0, X', hL, e1, e2, ⟨⟨hpf, hv, hws⟩, hFr⟩, stp⟩ := hr T hT X
  cases hv
  obtain ⟨hzz, hkk⟩ := hFr
  rw [h0] at hzz hkk
  have hS1 : va_S (zEA E) (zEH E) T'.heap (locs ++ L) := ⟨Nat.le_trans hS.1 (by rw [e1]; exact hzz), fun q h1 h2 => by rw [e1, hkk q (Nat.lt_of_lt_of_le h1 hS.1) (fun z => h2 (hAA q z))]; exact hS.2.1 q h1 h2, fun q hq => by
      rcases List.mem_append.mp hq with h | h
      · exact hS.2.2 q h
      · exact hAA _ (hL q h)⟩
  have hP1 : va_P (zED E) vwCl (A ++ (zwl (zEi E) (zEb E) o nw v1 ++ B)) T'.heap := by
    rw [e1]
    exact wP_join hP hAB hkk hws.1
  obtain ⟨t2, a1, b1⟩ := kk hpf T'.heap (locs ++ L) ls hP1 hS1 hZ hl T' rfl X'
  refine ⟨t2, stp t2 ?_, b1⟩
  cases ret with
  | none => exact a1
  | some x => exact a1
theorem w_callVS (C : zC E nn cc own Ts) {o nw : Nat} {R' : Room} {ad adV : Nat → Nat} (hZs : zStr ad adV (zEA E) (zEs E) (zEH E)) (hRm : zER E = R') {A B : va_W} (hAB : ∀ q ∈ A ++ B, ¬ (zEb E + o ≤ q.1 ∧ q.1 < zEb E + (o + nw))) (hcov : ∀ i, i < nw → (zEA E) (zEb E + (o + i))) {y : MethodName} {wsy ws' : List Cond} {rm : Room} {a ci NN idx nA maxL mc ms k' n' : Nat} {Cn : String} {T : u_T} {bytes : ByteArray} {ret' : Option FieldType} {As : List zAV} {Pf : Prop} {ret : Option zAV} {v v1 : zHp}
    (M : zCTS (zEl E) y wsy rm (zED E) (zEi E) (zEb E) o False ad adV nw (zr a :: As) v nw Pf ret v1 mc ms) (hka : zK a = (ci, NN)) (h1 : o ≤ a) (h2 : a < o + nw) (hci : ci < 20) (hc : vwCl[ci]? = some (Cn, T, NN)) (hG : GoodIn Ts (wsV own idx Cn y wsy)) (hw : wsy = .code y bytes maxL ret' :: ws')
    (hd : y.cls = Cn ∧ y.cls ≠ "java/lang/invoke/MethodHandle" ∧ y.cls ≠ "java/lang/invoke/VarHandle" ∧ (parseMethodDescriptor y.desc).map (fun d => d.parameters.length) = some nA) (hn : As.length = nA) (hR0 : rm.cells = mc ∧ rm.slots = ms) (hR : rm.frames + 1 ≤ R'.frames ∧ 8 + (maxL + 11) + rm.locals ≤ R'.locals) (hKn : k + mc = k' ∧ n + ms = n') (hF : k' ≤ R'.cells ∧ n' ≤ R'.slots) (st : List zAV) (hst : stk = As.reverse ++ zr a :: st) (hl8 : st.length ≤ 8) (d : decode cc pc = .ok (.invokevirtual idx, 3))
    (stk' : List zAV) (hs' : ret.toList ++ st = stk') (kk : Pf → zY E k' n' (A ++ (zwl (zEi E) (zEb E) o nw v1 ++ B)) (pc + 3) lo stk') : zY E k n (A ++ (zwl (zEi E) (zEb E) o nw v ++ B)) pc lo stk := by
  subst hRm hst hs'
  obtain ⟨rfl, rfl⟩ := hKn
  intro H locs ls hP hS hZ hl
  obtain ⟨hx, hb, hown, hts, hK, hlocks, hml, hA, hAn⟩ := id C
  have hcat := w_cat (b := zEb E) hl8
  have hmap : (As.reverse ++ zr a :: st).map (zxv (zEb E)) = (As.map (zxv (zEb E))).reverse ++ .ref (zEb E + a) :: st.map (zxv (zEb E)) := by simp [zxv]
  rw [hmap]
  have hAA : ∀ q, zA (zEb E) o nw H.size q → (zEA E) q := by
    intro q hq
    rcases hq with ⟨h1, h2⟩ | h1
    · have := hcov (q - zEb E - o) (by omega)
      have e : zEb E + (o + (q - zEb E - o)) = q := by omega
      rwa [e] at this
    · exact hA q (Nat.le_trans hS.1 h1)
  have hr := va_runV (p := zEp E) (l := zEl E) (e := zEe E) (R := zER E) (below := zEbe E) (meth := zEme E) (locs := locs) (cells := k) (slots := n) (g := F0 (zEm E) pc ls ((As.map (zxv (zEb E))).reverse ++ .ref (zEb E + a) :: st.map (zxv (zEb E)))) ⟨hx, hb, hml, hown, hts⟩ (M H.size) (cwV nA hts hG hw hR0.1 hR0.2 hd hR) ⟨zPreS_blind, va_recv hK (wP_Z hP) hc (q0 := a - o) (by rw [zwl_at h1 h2, hka, zec_obj hci]), fun U hU hW => ⟨rfl, by rw [hU], ⟨by rw [hU]; exact wP_Z hP, va_K.moved hW.alike hK, fun z => z.elim⟩, by rw [hU]; exact ((hZs.kept hS.2.1).narrow hAA).warm hW⟩⟩ rfl (by simpa using hn) hl.1 rfl (lv_room hcat) d hF
  intro T hT X
  obtain ⟨v', st₀, t, T', L, h0, X', hL, e1, e2, ⟨⟨hpf, hv, hws⟩, hFr⟩, stp⟩ := hr T hT X
  cases hv
  obtain ⟨hzz, hkk⟩ := hFr
  rw [h0] at hzz hkk
  have hS1 : va_S (zEA E) (zEH E) T'.heap (locs ++ L) := ⟨Nat.le_trans hS.1 (by rw [e1]; exact hzz), fun q h1 h2 => by rw [e1, hkk q (Nat.lt_of_lt_of_le h1 hS.1) (fun z => h2 (hAA q z))]; exact hS.2.1 q h1 h2, fun q hq => by
      rcases List.mem_append.mp hq with h | h
      · exact hS.2.2 q h
      · exact hAA _ (hL q h)⟩
  have hP1 : va_P (zED E) vwCl (A ++ (zwl (zEi E) (zEb E) o nw v1 ++ B)) T'.heap := by
    rw [e1]
    exact wP_join hP hAB hkk hws.1
  obtain ⟨t2, a1, b1⟩ := kk hpf T'.heap (locs ++ L) ls hP1 hS1 hZ hl T' rfl X'
  refine ⟨t2, stp t2 ?_, b1⟩
  cases ret with
  | none => exact a1
  | some x => exact a1
/-- a call that throws, and the handler that catches it -/
theorem w_callX (C : zC E nn cc own Ts) {o nw : Nat} {R' : Room} (hTw : zTw (zEA E) (zEs E) (zEH E)) (hRm : zER E = R') {A B : va_W} (hAB : ∀ q ∈ A ++ B, ¬ (zEb E + o ≤ q.1 ∧ q.1 < zEb E + (o + nw))) (hcov : ∀ i, i < nw → (zEA E) (zEb E + (o + i))) {y : MethodName} {wsy ws' : List Cond} {rm : Room} {a ci NN idx nA maxL mc ms k' n' : Nat} {Cn : String} {T : u_T} {bytes : ByteArray} {ret' : Option FieldType} {As : List zAV} {Pf : Prop} {v v1 : zHp}
    (M : zCTX (zEl E) y wsy rm (zED E) (zEi E) (zEb E) o nw (zr a :: As) v Pf v1 mc ms) (hka : zK a = (ci, NN)) (h1 : o ≤ a) (h2 : a < o + nw) (hci : ci < 20) (hc : vwCl[ci]? = some (Cn, T, NN)) (hG : GoodIn Ts (wsV own idx Cn y wsy)) (hw : wsy = .code y bytes maxL ret' :: ws')
    (hd : y.cls = Cn ∧ y.cls ≠ "java/lang/invoke/MethodHandle" ∧ y.cls ≠ "java/lang/invoke/VarHandle" ∧ (parseMethodDescriptor y.desc).map (fun d => d.parameters.length) = some nA) (hn : As.length = nA) (hR0 : rm.cells = mc ∧ rm.slots = ms) (hR : rm.frames + 1 ≤ R'.frames ∧ 8 + (maxL + 11) + rm.locals ≤ R'.locals) (hKn : k + mc = k' ∧ n + ms = n') (hF : k' ≤ R'.cells ∧ n' ≤ R'.slots) (st : List zAV) (hst : stk = As.reverse ++ zr a :: st) (hl8 : st.length ≤ 8) (d : decode cc pc = .ok (.invokevirtual idx, 3))
    {x : ExceptionTableEntry} (htab : (zEc E).exceptionTable.toList = [x]) (hx : covers x pc = true) (hx0 : x.catchType ≠ 0) (hcl : Cond.classLink own x.catchType zNS ∈ Ts)
    (kk : Pf → ∀ q, zY E k' n' (A ++ (zwl (zEi E) (zEb E) o nw v1 ++ B)) x.handlerPc lo [zs q]) : zY E k n (A ++ (zwl (zEi E) (zEb E) o nw v ++ B)) pc lo stk := by
  subst hRm hst
  obtain ⟨rfl, rfl⟩ := hKn
  intro H locs ls hP hS hZ hl
  obtain ⟨hx1, hb, hown, hts, hK, hlocks, hml, hA, hAn⟩ := id C
  have hcat := w_cat (b := zEb E) hl8
  have hmap : (As.reverse ++ zr a :: st).map (zxv (zEb E)) = (As.map (zxv (zEb E))).reverse ++ .ref (zEb E + a) :: st.map (zxv (zEb E)) := by simp [zxv]
  rw [hmap]
  have hAA : ∀ q, zA (zEb E) o nw H.size q → (zEA E) q := by
    intro q hq
    rcases hq with ⟨h1, h2⟩ | h1
    · have := hcov (q - zEb E - o) (by omega)
      have e : zEb E + (o + (q - zEb E - o)) = q := by omega
      rwa [e] at this
    · exact hA q (Nat.le_trans hS.1 h1)
  have hr := vx_runV (p := zEp E) (l := zEl E) (e := zEe E) (R := zER E) (below := zEbe E) (meth := zEme E) (locs := locs) (cells := k) (slots := n) (g := F0 (zEm E) pc ls ((As.map (zxv (zEb E))).reverse ++ .ref (zEb E + a) :: st.map (zxv (zEb E)))) ⟨hx1, hb, hml, hown, hts⟩ (M H.size) (cwV nA hts hG hw hR0.1 hR0.2 hd hR) ⟨zPreX_blind, va_recv hK (wP_Z hP) hc (q0 := a - o) (by rw [zwl_at h1 h2, hka, zec_obj hci]), fun U hU hW => ⟨rfl, by rw [hU], ⟨by rw [hU]; exact wP_Z hP, va_K.moved hW.alike hK, fun z => z.elim⟩, by rw [hU]; exact ((hTw.kept hS.2.1).narrow hAA).warm hW⟩⟩ rfl (by simpa using hn) hl.1 rfl (lv_room hcat) d hF
  intro T hT X
  rcases hr T hT X with ⟨v', st₀, t, T', L, h0, X', hL, e1, e2, hno, stp⟩ | ⟨q, st₀, t, T', L, EN, ce, h0, X', hL, e1, e2, ⟨rfl, ⟨hpf, hws⟩, hFr⟩, hce, hcv, hcls, stp⟩
  · exact hno.elim
  obtain ⟨hzz, hkk⟩ := hFr
  rw [h0] at hzz hkk
  have hS1 : va_S (zEA E) (zEH E) T'.heap (locs ++ L) := ⟨Nat.le_trans hS.1 (by rw [e1]; exact hzz), fun q h1 h2 => by rw [e1, hkk q (Nat.lt_of_lt_of_le h1 hS.1) (fun z => h2 (hAA q z))]; exact hS.2.1 q h1 h2, fun q hq => by
      rcases List.mem_append.mp hq with h | h
      · exact hS.2.2 q h
      · exact hAA _ (hL q h)⟩
  have hP1 : va_P (zED E) vwCl (A ++ (zwl (zEi E) (zEb E) o nw v1 ++ B)) T'.heap := by
    rw [e1]
    exact wP_join hP hAB hkk hws.1
  have hcaught := vx_catch (p := zEp E) (l := zEl E) (e := zEe E) (R := zER E) (below := zEbe E) (meth := zEme E) (locs := locs ++ L) (cells := k + mc) (slots := n + ms) (Q := zEQ E) (pc := pc) (ls := ls) (rest := st.map (zxv (zEb E))) (own := own) (name := zNS) (E := zNS) (ce := ce) (q := q) (H := T'.heap) hown [] x [] htab (fun z hz => by cases hz) hx hx0 (hts _ hcl) (va_Nw.use rfl hTw.1.1) (by rw [e1]; exact hce) hcv hcls (kk hpf q T'.heap (locs ++ L) ls hP1 hS1 hZ hl)
  obtain ⟨t2, a1, b1⟩ := hcaught T' rfl X'
  exact ⟨t2, stp.trans a1, b1⟩
end ZY
