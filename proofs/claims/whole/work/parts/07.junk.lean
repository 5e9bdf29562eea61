/-! a walk with an array of its own, outside the world: rows as before, by program out of parts 04 and 07; and calls that make cells -/
/-- a row's contents -/
def zup (f : Int → Int) (i x : Int) : Int → Int := fun j => if j = i then x else f j
def zf0 : Int → Int := fun _ => 0
theorem zf0_R : ∀ j, zR (zf0 j) := fun _ => zR_0
theorem zup_R {f : Int → Int} (h : ∀ j, zR (f j)) {i x : Int} (hx : zR x) : ∀ j, zR (zup f i x j) := by
  intro j
  unfold zup
  split
  · exact hx
  · exact h j
def zjw (ids : Nat → ClassId) (b o nn : Nat) (v : zHp) (q N : Nat) (f : Int → Int) : va_W := zwl ids b o nn v ++ [(q, .inl (ids 20, N, .inl fun j => zI (f (j : Int))))]
def zJ (E : zE) (k n nn : Nat) (v : zHp) (q N : Nat) (f : Int → Int) (pc : Nat) (lo : List (Option zAV)) (st : List zAV) : Prop :=
  ∀ (H : Heap) (locs : List Loc) (ls : Array Slot), (va_P (zED E) vwCl (zjw (zEi E) (zEb E) (zEo E) nn v q N f) H ∧ (∀ i, i < nn → zEb E + (zEo E + i) ≠ q) ∧ (zEA E) q) → va_S (zEA E) (zEH E) H locs → (zEz E → False) → lv_has ls (zEN E) (zpr (zEb E) lo) →
    W (zEp E) (zEl E) (zEe E) (zER E) (zEs E) (zEm E) (zEa E) (zEbe E) (zEme E) (zEc E) H locs k n (zEQ E) (F0 (zEm E) pc ls (st.map (zxv (zEb E))))
section ZJ
variable {E : zE} {nn : Nat} {cc : ByteArray} {own : String} {Ts : List Cond} {k n : Nat} {v : zHp} {pc q N : Nat} {f : Int → Int} {lo : List (Option zAV)} {st stk : List zAV}
theorem y_iconst (C : zC E nn cc own Ts) {i : Int} (d : decode cc pc = .ok (.iconst i, 1)) (kk : zJ E k n nn v q N f (pc + 1) lo (zi i :: st)) : zJ E k n nn v q N f pc lo st :=
  fun H locs ls hP hS hZ hl => lv_iconst C.1 C.2.1 d rfl (kk H locs ls hP hS hZ hl)
theorem y_bipush (C : zC E nn cc own Ts) {i : Int} (hi : (Int8.ofInt i).toInt32 = zI i) (d : decode cc pc = .ok (.bipush i, 2)) (kk : zJ E k n nn v q N f (pc + 2) lo (zi i :: st)) : zJ E k n nn v q N f pc lo st :=
  fun H locs ls hP hS hZ hl => lv_bipush C.1 C.2.1 d hi (kk H locs ls hP hS hZ hl)
theorem y_iload_n (C : zC E nn cc own Ts) {qq : Fin 4} (d : decode cc pc = .ok (.iload_n qq, 1)) {x : Int} (h : lo[(qq : Nat)]? = some (some (zi x))) (kk : zJ E k n nn v q N f (pc + 1) lo (zi x :: st)) : zJ E k n nn v q N f pc lo st :=
  fun H locs ls hP hS hZ hl => lv_iload_n C.1 C.2.1 d rfl (z_at hl h) (kk H locs ls hP hS hZ hl)
theorem y_iload (C : zC E nn cc own Ts) {i : Nat} (d : decode cc pc = .ok (.iload i, 2)) {x : Int} (h : lo[i]? = some (some (zi x))) (kk : zJ E k n nn v q N f (pc + 2) lo (zi x :: st)) : zJ E k n nn v q N f pc lo st :=
  fun H locs ls hP hS hZ hl => lv_iload C.1 C.2.1 d (z_at hl h) (kk H locs ls hP hS hZ hl)
theorem y_aload_n (C : zC E nn cc own Ts) {qq : Fin 4} (d : decode cc pc = .ok (.aload_n qq, 1)) {a : Nat} (h : lo[(qq : Nat)]? = some (some (zr a))) (kk : zJ E k n nn v q N f (pc + 1) lo (zr a :: st)) : zJ E k n nn v q N f pc lo st :=
  fun H locs ls hP hS hZ hl => lv_aload_n C.1 C.2.1 d rfl (z_at hl h) (kk H locs ls hP hS hZ hl)
theorem y_istore_n (C : zC E nn cc own Ts) {qq : Fin 4} {x : Int} (d : decode cc pc = .ok (.istore_n qq, 1)) (hN : (qq : Nat) < zEN E) (kk : zJ E k n nn v q N f (pc + 1) (lo.set qq (some (zi x))) st) : zJ E k n nn v q N f pc lo (zi x :: st) :=
  fun H locs ls hP hS hZ hl => lv_istore_n C.1 C.2.1 d rfl hl hN rfl fun ls' h => kk H locs ls' hP hS hZ (z_put h)
theorem y_istore (C : zC E nn cc own Ts) {i : Nat} {x : Int} (d : decode cc pc = .ok (.istore i, 2)) (hN : i < zEN E) (kk : zJ E k n nn v q N f (pc + 2) (lo.set i (some (zi x))) st) : zJ E k n nn v q N f pc lo (zi x :: st) :=
  fun H locs ls hP hS hZ hl => lv_istore C.1 C.2.1 d hl hN rfl fun ls' h => kk H locs ls' hP hS hZ (z_put h)
theorem y_iinc (C : zC E nn cc own Ts) {i : Nat} {m x : Int} (d : decode cc pc = .ok (.iinc i m, 3)) (hN : i < zEN E) (h : lo[i]? = some (some (zi x))) (kk : zJ E k n nn v q N f (pc + 3) (lo.set i (some (zi (x + m)))) st) : zJ E k n nn v q N f pc lo st := by
  intro H locs ls hP hS hZ hl
  obtain ⟨p, hp⟩ := List.getElem?_of_mem (zpr_mem.mpr ⟨_, h, rfl⟩ : (i, zxv (zEb E) (zi x)) ∈ zpr (zEb E) lo)
  refine lv_iinc (k := p) (x := zI x) (v := zI (x + m)) C.1 C.2.1 d hl hp (zI_add x m) hN rfl fun ls' h => kk H locs ls' hP hS hZ (z_put (x := zi (x + m)) h)
theorem y_iadd (C : zC E nn cc own Ts) {x y : Int} (d : decode cc pc = .ok (.iadd, 1)) (kk : zJ E k n nn v q N f (pc + 1) lo (zi (x + y) :: st)) : zJ E k n nn v q N f pc lo (zi y :: zi x :: st) := by
  intro H locs ls hP hS hZ hl
  refine lv_iadd C.1 C.2.1 d ?_
  rw [zI_add]
  exact kk H locs ls hP hS hZ hl
theorem y_isub (C : zC E nn cc own Ts) {x y : Int} (d : decode cc pc = .ok (.isub, 1)) (kk : zJ E k n nn v q N f (pc + 1) lo (zi (x - y) :: st)) : zJ E k n nn v q N f pc lo (zi y :: zi x :: st) := by
  intro H locs ls hP hS hZ hl
  refine lv_isub C.1 C.2.1 d ?_
  rw [zI_sub]
  exact kk H locs ls hP hS hZ hl
theorem y_n0 {x y : Int} (h : zI x = zI y) (kk : zJ E k n nn v q N f pc lo (zi y :: st)) : zJ E k n nn v q N f pc lo (zi x :: st) := by
  intro H locs ls hP hS hZ hl
  have := kk H locs ls hP hS hZ hl
  simpa only [List.map_cons, zxv, h] using this
theorem y_n1 {x y : Int} {a : zAV} (h : zI x = zI y) (kk : zJ E k n nn v q N f pc lo (a :: zi y :: st)) : zJ E k n nn v q N f pc lo (a :: zi x :: st) := by
  intro H locs ls hP hS hZ hl
  have := kk H locs ls hP hS hZ hl
  simpa only [List.map_cons, zxv, h] using this
theorem y_n2 {x y : Int} {a b : zAV} (h : zI x = zI y) (kk : zJ E k n nn v q N f pc lo (a :: b :: zi y :: st)) : zJ E k n nn v q N f pc lo (a :: b :: zi x :: st) := by
  intro H locs ls hP hS hZ hl
  have := kk H locs ls hP hS hZ hl
  simpa only [List.map_cons, zxv, h] using this
theorem y_sub {lo' : List (Option zAV)} (hs : zsub lo' lo) (kk : zJ E k n nn v q N f pc lo' st) : zJ E k n nn v q N f pc lo st :=
  fun H locs ls hP hS hZ hl => kk H locs ls hP hS hZ ⟨hl.1, hl.2.1, fun q hq => by
    obtain ⟨x, h1, h2⟩ := zpr_mem.mp hq
    exact hl.2.2 q (zpr_mem.mpr ⟨x, zsub_at hs _ _ h1, h2⟩)⟩
theorem y_goto (C : zC E nn cc own Ts) {off : Int} {tgt : Nat} (d : decode cc pc = .ok (.goto off, 3)) (ht : (pc : Int) + off = (tgt : Int)) (kk : zJ E k n nn v q N f tgt lo st) : zJ E k n nn v q N f pc lo st :=
  fun H locs ls hP hS hZ hl => lv_goto C.1 C.2.1 d ht (kk H locs ls hP hS hZ hl)
theorem y_dup (C : zC E nn cc own Ts) {x : zAV} (d : decode cc pc = .ok (.dup, 1)) (kk : zJ E k n nn v q N f (pc + 1) lo (x :: x :: st)) : zJ E k n nn v q N f pc lo (x :: st) :=
  fun H locs ls hP hS hZ hl => lv_dup C.1 C.2.1 d (zxv_cat _ x) (kk H locs ls hP hS hZ hl)
theorem y_if_eq (C : zC E nn cc own Ts) {x : Int} {off : Int} {tgt : Nat} {α : Type} {X Y : Option α} {res : α} (hx : zR x) (d : decode cc pc = .ok (.ifCond .eq off, 3)) (ht : (pc : Int) + off = (tgt : Int)) (h : (if x = 0 then X else Y) = some res) (kt : X = some res → zJ E k n nn v q N f tgt lo st) (kf : Y = some res → zJ E k n nn v q N f (pc + 3) lo st) : zJ E k n nn v q N f pc lo (zi x :: st) :=
  fun H locs ls hP hS hZ hl => lv_if_eq C.1 C.2.1 d ht (fun c => kt (by rw [if_pos ((zI_eq hx zR_0).mp c)] at h; exact h) H locs ls hP hS hZ hl) (fun c => kf (by rw [if_neg (fun q => c ((zI_eq hx zR_0).mpr q))] at h; exact h) H locs ls hP hS hZ hl)
theorem y_if_ne (C : zC E nn cc own Ts) {x : Int} {off : Int} {tgt : Nat} {α : Type} {X Y : Option α} {res : α} (hx : zR x) (d : decode cc pc = .ok (.ifCond .ne off, 3)) (ht : (pc : Int) + off = (tgt : Int)) (h : (if x ≠ 0 then X else Y) = some res) (kt : X = some res → zJ E k n nn v q N f tgt lo st) (kf : Y = some res → zJ E k n nn v q N f (pc + 3) lo st) : zJ E k n nn v q N f pc lo (zi x :: st) :=
  fun H locs ls hP hS hZ hl => lv_if_ne C.1 C.2.1 d ht (fun c => kt (by rw [if_pos ((not_congr (zI_eq hx zR_0)).mp c)] at h; exact h) H locs ls hP hS hZ hl) (fun c => kf (by rw [if_neg (fun q => q ((zI_eq hx zR_0).mp c))] at h; exact h) H locs ls hP hS hZ hl)
theorem y_if_lt (C : zC E nn cc own Ts) {x : Int} {off : Int} {tgt : Nat} {α : Type} {X Y : Option α} {res : α} (hx : zR x) (d : decode cc pc = .ok (.ifCond .lt off, 3)) (ht : (pc : Int) + off = (tgt : Int)) (h : (if x < 0 then X else Y) = some res) (kt : X = some res → zJ E k n nn v q N f tgt lo st) (kf : Y = some res → zJ E k n nn v q N f (pc + 3) lo st) : zJ E k n nn v q N f pc lo (zi x :: st) :=
  fun H locs ls hP hS hZ hl => lv_if_lt C.1 C.2.1 d ht (fun c => kt (by rw [if_pos ((zI_lt hx zR_0).mp c)] at h; exact h) H locs ls hP hS hZ hl) (fun c => kf (by rw [if_neg (fun q => c ((zI_lt hx zR_0).mpr q))] at h; exact h) H locs ls hP hS hZ hl)
theorem y_if_ge (C : zC E nn cc own Ts) {x : Int} {off : Int} {tgt : Nat} {α : Type} {X Y : Option α} {res : α} (hx : zR x) (d : decode cc pc = .ok (.ifCond .ge off, 3)) (ht : (pc : Int) + off = (tgt : Int)) (h : (if 0 ≤ x then X else Y) = some res) (kt : X = some res → zJ E k n nn v q N f tgt lo st) (kf : Y = some res → zJ E k n nn v q N f (pc + 3) lo st) : zJ E k n nn v q N f pc lo (zi x :: st) :=
  fun H locs ls hP hS hZ hl => lv_if_ge C.1 C.2.1 d ht (fun c => kt (by rw [if_pos ((zI_le zR_0 hx).mp c)] at h; exact h) H locs ls hP hS hZ hl) (fun c => kf (by rw [if_neg (fun q => c ((zI_le zR_0 hx).mpr q))] at h; exact h) H locs ls hP hS hZ hl)
theorem y_if_gt (C : zC E nn cc own Ts) {x : Int} {off : Int} {tgt : Nat} {α : Type} {X Y : Option α} {res : α} (hx : zR x) (d : decode cc pc = .ok (.ifCond .gt off, 3)) (ht : (pc : Int) + off = (tgt : Int)) (h : (if 0 < x then X else Y) = some res) (kt : X = some res → zJ E k n nn v q N f tgt lo st) (kf : Y = some res → zJ E k n nn v q N f (pc + 3) lo st) : zJ E k n nn v q N f pc lo (zi x :: st) :=
  fun H locs ls hP hS hZ hl => lv_if_gt C.1 C.2.1 d ht (fun c => kt (by rw [if_pos ((zI_lt zR_0 hx).mp c)] at h; exact h) H locs ls hP hS hZ hl) (fun c => kf (by rw [if_neg (fun q => c ((zI_lt zR_0 hx).mpr q))] at h; exact h) H locs ls hP hS hZ hl)
theorem y_if_le (C : zC E nn cc own Ts) {x : Int} {off : Int} {tgt : Nat} {α : Type} {X Y : Option α} {res : α} (hx : zR x) (d : decode cc pc = .ok (.ifCond .le off, 3)) (ht : (pc : Int) + off = (tgt : Int)) (h : (if x ≤ 0 then X else Y) = some res) (kt : X = some res → zJ E k n nn v q N f tgt lo st) (kf : Y = some res → zJ E k n nn v q N f (pc + 3) lo st) : zJ E k n nn v q N f pc lo (zi x :: st) :=
  fun H locs ls hP hS hZ hl => lv_if_le C.1 C.2.1 d ht (fun c => kt (by rw [if_pos ((zI_le hx zR_0).mp c)] at h; exact h) H locs ls hP hS hZ hl) (fun c => kf (by rw [if_neg (fun q => c ((zI_le hx zR_0).mpr q))] at h; exact h) H locs ls hP hS hZ hl)
theorem y_icmp_eq (C : zC E nn cc own Ts) {x y : Int} {off : Int} {tgt : Nat} {α : Type} {X Y : Option α} {res : α} (hx : zR x) (hy : zR y) (d : decode cc pc = .ok (.if_icmp .eq off, 3)) (ht : (pc : Int) + off = (tgt : Int)) (h : (if x = y then X else Y) = some res) (kt : X = some res → zJ E k n nn v q N f tgt lo st) (kf : Y = some res → zJ E k n nn v q N f (pc + 3) lo st) : zJ E k n nn v q N f pc lo (zi y :: zi x :: st) :=
  fun H locs ls hP hS hZ hl => lv_icmp_eq C.1 C.2.1 d ht (fun c => kt (by rw [if_pos ((zI_eq hx hy).mp c)] at h; exact h) H locs ls hP hS hZ hl) (fun c => kf (by rw [if_neg (fun q => c ((zI_eq hx hy).mpr q))] at h; exact h) H locs ls hP hS hZ hl)
theorem y_icmp_ne (C : zC E nn cc own Ts) {x y : Int} {off : Int} {tgt : Nat} {α : Type} {X Y : Option α} {res : α} (hx : zR x) (hy : zR y) (d : decode cc pc = .ok (.if_icmp .ne off, 3)) (ht : (pc : Int) + off = (tgt : Int)) (h : (if x ≠ y then X else Y) = some res) (kt : X = some res → zJ E k n nn v q N f tgt lo st) (kf : Y = some res → zJ E k n nn v q N f (pc + 3) lo st) : zJ E k n nn v q N f pc lo (zi y :: zi x :: st) :=
  fun H locs ls hP hS hZ hl => lv_icmp_ne C.1 C.2.1 d ht (fun c => kt (by rw [if_pos ((not_congr (zI_eq hx hy)).mp c)] at h; exact h) H locs ls hP hS hZ hl) (fun c => kf (by rw [if_neg (fun q => q ((zI_eq hx hy).mp c))] at h; exact h) H locs ls hP hS hZ hl)
theorem y_icmp_lt (C : zC E nn cc own Ts) {x y : Int} {off : Int} {tgt : Nat} {α : Type} {X Y : Option α} {res : α} (hx : zR x) (hy : zR y) (d : decode cc pc = .ok (.if_icmp .lt off, 3)) (ht : (pc : Int) + off = (tgt : Int)) (h : (if x < y then X else Y) = some res) (kt : X = some res → zJ E k n nn v q N f tgt lo st) (kf : Y = some res → zJ E k n nn v q N f (pc + 3) lo st) : zJ E k n nn v q N f pc lo (zi y :: zi x :: st) :=
  fun H locs ls hP hS hZ hl => lv_icmp_lt C.1 C.2.1 d ht (fun c => kt (by rw [if_pos ((zI_lt hx hy).mp c)] at h; exact h) H locs ls hP hS hZ hl) (fun c => kf (by rw [if_neg (fun q => c ((zI_lt hx hy).mpr q))] at h; exact h) H locs ls hP hS hZ hl)
theorem y_icmp_ge (C : zC E nn cc own Ts) {x y : Int} {off : Int} {tgt : Nat} {α : Type} {X Y : Option α} {res : α} (hx : zR x) (hy : zR y) (d : decode cc pc = .ok (.if_icmp .ge off, 3)) (ht : (pc : Int) + off = (tgt : Int)) (h : (if y ≤ x then X else Y) = some res) (kt : X = some res → zJ E k n nn v q N f tgt lo st) (kf : Y = some res → zJ E k n nn v q N f (pc + 3) lo st) : zJ E k n nn v q N f pc lo (zi y :: zi x :: st) :=
  fun H locs ls hP hS hZ hl => lv_icmp_ge C.1 C.2.1 d ht (fun c => kt (by rw [if_pos ((zI_le hy hx).mp c)] at h; exact h) H locs ls hP hS hZ hl) (fun c => kf (by rw [if_neg (fun q => c ((zI_le hy hx).mpr q))] at h; exact h) H locs ls hP hS hZ hl)
theorem y_icmp_gt (C : zC E nn cc own Ts) {x y : Int} {off : Int} {tgt : Nat} {α : Type} {X Y : Option α} {res : α} (hx : zR x) (hy : zR y) (d : decode cc pc = .ok (.if_icmp .gt off, 3)) (ht : (pc : Int) + off = (tgt : Int)) (h : (if y < x then X else Y) = some res) (kt : X = some res → zJ E k n nn v q N f tgt lo st) (kf : Y = some res → zJ E k n nn v q N f (pc + 3) lo st) : zJ E k n nn v q N f pc lo (zi y :: zi x :: st) :=
  fun H locs ls hP hS hZ hl => lv_icmp_gt C.1 C.2.1 d ht (fun c => kt (by rw [if_pos ((zI_lt hy hx).mp c)] at h; exact h) H locs ls hP hS hZ hl) (fun c => kf (by rw [if_neg (fun q => c ((zI_lt hy hx).mpr q))] at h; exact h) H locs ls hP hS hZ hl)
theorem y_icmp_le (C : zC E nn cc own Ts) {x y : Int} {off : Int} {tgt : Nat} {α : Type} {X Y : Option α} {res : α} (hx : zR x) (hy : zR y) (d : decode cc pc = .ok (.if_icmp .le off, 3)) (ht : (pc : Int) + off = (tgt : Int)) (h : (if x ≤ y then X else Y) = some res) (kt : X = some res → zJ E k n nn v q N f tgt lo st) (kf : Y = some res → zJ E k n nn v q N f (pc + 3) lo st) : zJ E k n nn v q N f pc lo (zi y :: zi x :: st) :=
  fun H locs ls hP hS hZ hl => lv_icmp_le C.1 C.2.1 d ht (fun c => kt (by rw [if_pos ((zI_le hx hy).mp c)] at h; exact h) H locs ls hP hS hZ hl) (fun c => kf (by rw [if_neg (fun q => c ((zI_le hx hy).mpr q))] at h; exact h) H locs ls hP hS hZ hl)
theorem y_nk (dep : Nat) {x y : Int} (h : zI x = zI y) (hk : stk[dep]? = some (zi x)) (kk : zJ E k n nn v q N f pc lo (stk.set dep (zi y))) : zJ E k n nn v q N f pc lo stk := by
  intro H locs ls hP hS hZ hl
  have := kk H locs ls hP hS hZ hl
  have e : (stk.set dep (zi y)).map (zxv (zEb E)) = stk.map (zxv (zEb E)) := by
    rw [List.map_set]
    refine List.ext_getElem? fun i => ?_
    by_cases hi : i = dep
    · subst hi
      rw [List.getElem?_set_self (by rw [List.length_map]; exact (List.getElem?_eq_some_iff.mp hk).1), List.getElem?_map, hk]
      simp [zxv, h]
    · rw [List.getElem?_set_ne (Ne.symm hi)]
  rwa [e] at this
theorem y_iincE (C : zC E nn cc own Ts) {i : Nat} {m x t : Int} (d : decode cc pc = .ok (.iinc i m, 3)) (hN : i < zEN E) (h : lo[i]? = some (some (zi x))) (e : t = x + m) (kk : zJ E k n nn v q N f (pc + 3) (lo.set i (some (zi t))) st) : zJ E k n nn v q N f pc lo st := by
  subst e
  exact y_iinc C d hN h kk
theorem zjP {ids : Nat → ClassId} {b o nn : Nat} {v : zHp} {q N : Nat} {f : Int → Int} {D : va_G} {H : Heap} (h : va_P D vwCl (zjw ids b o nn v q N f) H) : va_P D vwCl (zwl ids b o nn v) H := fun k x hx => h k x (by
  unfold zjw
  rw [List.getElem?_append_left (List.getElem?_eq_some_iff.mp hx).1]
  exact hx)
theorem zjq {ids : Nat → ClassId} {b o nn : Nat} {v : zHp} {q N : Nat} {f : Int → Int} : (zjw ids b o nn v q N f)[nn]? = some (q, .inl (ids 20, N, .inl fun j => zI (f (j : Int)))) := by
  unfold zjw
  rw [List.getElem?_append_right (by rw [zwl_len]; exact Nat.le_refl nn), zwl_len, Nat.sub_self]
  rfl
/-- the array isn't wanted any more -/
theorem y_drop (hz : zEz E = False) (kk : zX E k n nn v pc lo st) : zJ E k n nn v q N f pc lo st := by
  intro H locs ls hP hS hZ hl
  exact kk H locs ls (zjP hP.1) hS (fun z => by rw [hz] at z; exact z.elim) hl
theorem y_widen {k' n' : Nat} (h1 : k ≤ k') (h2 : n ≤ n') (kk : zJ E k' n' nn v q N f pc lo st) : zJ E k n nn v q N f pc lo st :=
  fun H locs ls hP hS hZ hl => W.widen h1 h2 (kk H locs ls hP hS hZ hl)
theorem y_new (C : zC E nn cc own Ts) (hz : zEz E = False) {R' : Room} (hRm : zER E = R') {M : Int} (hM : (N : Int) = M) (hN : N ≤ 100000) (harr : Cond.arrayClass (newarray.typeOf .int) ∈ Ts) {k' n' : Nat} (hk : k + 1 = k' ∧ n + N = n') (hf : k' ≤ R'.cells ∧ n' ≤ R'.slots) (d : decode cc pc = .ok (.newarray .int, 2)) (kk : ∀ q, zJ E k' n' nn v q N zf0 (pc + 2) lo (zs q :: st)) : zX E k n nn v pc lo (zi M :: st) := by
  subst hRm hM
  obtain ⟨rfl, rfl⟩ := hk
  intro H locs ls hP hS hZ hl
  have hR : zR (N : Int) := ⟨by omega, by omega⟩
  have e1 : ¬ zI (N : Int) < 0 := by
    rw [zI_0, zI_lt hR zR_0]
    omega
  have e2 : (zI (N : Int)).toNatClampNeg = N := by
    show (zI (N : Int)).toInt.toNat = N
    rw [show (zI (N : Int)).toInt = (N : Int) from zw_id hR]
    omega
  refine va_newaK (h := H.size) C.1 C.2.1 (C.2.2.2.1 _ harr) (g := F0 (zEm E) pc ls _) rfl d rfl e1 e2 (show N * 4 ≤ 536870912 by omega) hf.1 hf.2 rfl fun H' cA h1 h2 h3 h4 h5 => ?_
  have h6 : cA = zEi E 20 := Option.some.inj (h5.symm.trans (C.2.2.2.2.1.2 0 _ rfl).2)
  subst h6
  refine kk H.size H' locs ls ⟨?_, fun i hi => ?_, C.2.2.2.2.2.2.2.1 _ hS.1⟩ ⟨Nat.le_trans hS.1 (by omega), fun x g1 g2 => (h3 x (Nat.lt_of_lt_of_le g1 hS.1)).trans (hS.2.1 x g1 g2), hS.2.2⟩ (fun z => by rw [hz] at z; exact z) hl
  · intro j x hx
    by_cases hj : j < nn
    · have hx2 : (zwl (zEi E) (zEb E) (zEo E) nn v)[j]? = some x := by
        unfold zjw at hx
        rwa [List.getElem?_append_left (by rw [zwl_len]; exact hj)] at hx
      exact (hP j x hx2).kept (h3 x.1 (hP j x hx2).lt)
    · have hjn : j = nn := by
        have := (List.getElem?_eq_some_iff.mp hx).1
        unfold zjw at this
        rw [List.length_append, zwl_len] at this
        simp at this
        omega
      subst hjn
      rw [zjq] at hx
      cases hx
      exact h1
  · have := (hP i _ (zwl_at' hi)).lt
    exact Nat.ne_of_lt this
theorem y_jld (C : zC E nn cc own Ts) {i M : Int} (hM : (N : Int) = M) (hN : N ≤ 2147483647) (qi : 0 ≤ i ∧ i < M) (d : decode cc pc = .ok (.iaload, 1)) (kk : zJ E k n nn v q N f (pc + 1) lo (zi (f i) :: st)) : zJ E k n nn v q N f pc lo (zi i :: zs q :: st) := by
  intro H locs ls hP hS hZ hl
  obtain ⟨hin, e, ei⟩ := zin qi.1 (by rw [hM]; exact qi.2) hN
  refine va_iald C.1 C.2.1 C.2.2.2.2.1 hP.1 nn 0 zjq rfl hin d ?_
  rw [e, ei]
  exact kk H locs ls hP hS hZ hl
theorem zjD {A : Nat → Prop} {ids : Nat → ClassId} {b o nn : Nat} {v : zHp} {q N : Nat} {f : Int → Int} (hA : ∀ i, i < nn → A (b + (o + i))) (hq : A q) (hn : ∀ i, i < nn → b + (o + i) ≠ q) : va_D A (zjw ids b o nn v q N f) := by
  refine va_D.app (zwl_D hA) ⟨fun i j x y hi hj _ => ?_, fun k x hx => ?_⟩ (fun i j x y hi hj => ?_)
  · have := (List.getElem?_eq_some_iff.mp hi).1
    have := (List.getElem?_eq_some_iff.mp hj).1
    simp at *
    omega
  · have h1 := List.mem_of_getElem? hx
    simp at h1
    rw [h1]
    exact hq
  · have h1 := List.mem_of_getElem? hj
    simp at h1
    rw [h1]
    have hl := (List.getElem?_eq_some_iff.mp hi).1
    rw [zwl_len] at hl
    rw [zwl_at' hl] at hi
    cases hi
    exact hn i hl
theorem y_jst (C : zC E nn cc own Ts) {i x M : Int} (hM : (N : Int) = M) (hN : N ≤ 2147483647) (qi : 0 ≤ i ∧ i < M) (d : decode cc pc = .ok (.iastore, 1)) (kk : zJ E k n nn v q N (zup f i x) (pc + 1) lo st) : zJ E k n nn v q N f pc lo (zi x :: zi i :: zs q :: st) := by
  intro H locs ls hP hS hZ hl
  obtain ⟨hin, e, ei⟩ := zin qi.1 (by rw [hM]; exact qi.2) hN
  have hD := zjD (ids := zEi E) (v := v) (N := N) (f := f) C.2.2.2.2.2.2.2.2 hP.2.2 hP.2.1
  refine va_iast C.1 C.2.1 C.2.2.2.2.1 hP.1 hD hS nn 0 zjq rfl hin d fun H1 locs1 h1 h2 h3 => ?_
  refine kk H1 locs1 ls ⟨?_, hP.2⟩ h3 hZ hl
  have e2 : (zjw (zEi E) (zEb E) (zEo E) nn v q N f).set nn (q, .inl (zEi E 20, N, .inl (upd (fun j : Nat => zI (f (j : Int))) (zI i).toNatClampNeg (zI x)))) = zjw (zEi E) (zEb E) (zEo E) nn v q N (zup f i x) := by
    unfold zjw
    rw [List.set_append_right _ _ (by rw [zwl_len]; exact Nat.le_refl nn), zwl_len, Nat.sub_self]
    congr 1
    show [(q, _)] = [(q, _)]
    refine congrArg (fun g => [(q, (Sum.inl (zEi E 20, N, Sum.inl g) : va_E))]) ?_
    funext j
    rw [e]
    unfold upd zup
    by_cases hj : j = i.toNat
    · subst hj
      simp [ei]
    · have : ¬ (j : Int) = i := by omega
      simp [hj, this]
  rw [← e2]
  exact h1
theorem y_astore (C : zC E nn cc own Ts) {i : Nat} {a : Nat} (d : decode cc pc = .ok (.astore i, 2)) (hN : i < zEN E) (kk : zJ E k n nn v q N f (pc + 2) (lo.set i (some (zs a))) st) : zJ E k n nn v q N f pc lo (zs a :: st) :=
  fun H locs ls hP hS hZ hl => lv_astore C.1 C.2.1 d hl hN rfl fun ls' h => kk H locs ls' hP hS hZ (z_put (x := zs a) h)
theorem y_aload (C : zC E nn cc own Ts) {i : Nat} (d : decode cc pc = .ok (.aload i, 2)) {a : Nat} (h : lo[i]? = some (some (zs a))) (kk : zJ E k n nn v q N f (pc + 2) lo (zs a :: st)) : zJ E k n nn v q N f pc lo st :=
  fun H locs ls hP hS hZ hl => lv_aload C.1 C.2.1 d (z_at hl h) (kk H locs ls hP hS hZ hl)
theorem y_getI (C : zC E nn cc own Ts) {a ci NN idx : Nat} {Cn ref : String} {T : u_T} (G : zG E nn a ci NN) (hci : ci < 20) (hc : vwCl[ci]? = some (Cn, T, NN)) (hin : ∀ w ∈ u_ws Cn T NN, w ∈ Ts) (j : Nat) {jj : Int} (hjj : (j : Int) = jj) (hj : j < NN) (hft : zft ci j = 0)
    (hlink : Cond.fieldLink own idx ref (T j).2.1 (T j).2.2.1 ∈ Ts) (hsame : (T j).1 = ref) (d : decode cc pc = .ok (.getfield idx, 3)) (kk : zJ E k n nn v q N f (pc + 3) lo (zi (v a jj) :: st)) : zJ E k n nn v q N f pc lo (zr a :: st) := by
  subst hjj
  obtain ⟨hk, h1, h2⟩ := id G
  intro H locs ls hP hS hZ hl
  have he : (zwl (zEi E) (zEb E) (zEo E) nn v)[a - zEo E]? = some (zEb E + a, .inr (ci, (List.range NN).map fun j => zfv (zEb E) (zft ci j) (v a (j : Int)))) := by
    rw [zwl_at h1 h2, hk, zec_obj hci]
  refine va_get (v := .int (zI (v a (j : Int)))) C.1 C.2.1 C.2.2.2.1 hin C.2.2.1 C.2.2.2.2.1 (zjP hP.1) (a - zEo E) he hc j hj (C.2.2.2.1 _ hlink) (fun x h => by rw [← hsame]; exact h) ?_ d (kk H locs ls hP hS hZ hl)
  rw [zfs_at hj, hft]
  rfl
theorem yf_12_3 (C : zC E nn cc own Ts) {a idx : Nat} (G : zG E nn a 12 38) (hin : ∀ w ∈ u_ws RX12 TX12 38, w ∈ Ts) (hlink : Cond.fieldLink own idx "PremiumHoursModel" "size" "I" ∈ Ts) (d : decode cc pc = .ok (.getfield idx, 3)) (kk : zJ E k n nn v q N f (pc + 3) lo (zi (v a 3) :: st)) : zJ E k n nn v q N f pc lo (zr a :: st) := y_getI (Cn := RX12) (T := TX12) C G (by decide) rfl hin 3 rfl (by decide) rfl hlink rfl d kk
theorem yf_12_4 (C : zC E nn cc own Ts) {a idx : Nat} (G : zG E nn a 12 38) (hin : ∀ w ∈ u_ws RX12 TX12 38, w ∈ Ts) (hlink : Cond.fieldLink own idx "PremiumHoursModel" "from" "I" ∈ Ts) (d : decode cc pc = .ok (.getfield idx, 3)) (kk : zJ E k n nn v q N f (pc + 3) lo (zi (v a 4) :: st)) : zJ E k n nn v q N f pc lo (zr a :: st) := y_getI (Cn := RX12) (T := TX12) C G (by decide) rfl hin 4 rfl (by decide) rfl hlink rfl d kk
theorem yf_12_5 (C : zC E nn cc own Ts) {a idx : Nat} (G : zG E nn a 12 38) (hin : ∀ w ∈ u_ws RX12 TX12 38, w ∈ Ts) (hlink : Cond.fieldLink own idx "PremiumHoursModel" "next" "I" ∈ Ts) (d : decode cc pc = .ok (.getfield idx, 3)) (kk : zJ E k n nn v q N f (pc + 3) lo (zi (v a 5) :: st)) : zJ E k n nn v q N f pc lo (zr a :: st) := y_getI (Cn := RX12) (T := TX12) C G (by decide) rfl hin 5 rfl (by decide) rfl hlink rfl d kk
theorem yf_12_6 (C : zC E nn cc own Ts) {a idx : Nat} (G : zG E nn a 12 38) (hin : ∀ w ∈ u_ws RX12 TX12 38, w ∈ Ts) (hlink : Cond.fieldLink own idx "PremiumHoursModel" "token" "I" ∈ Ts) (d : decode cc pc = .ok (.getfield idx, 3)) (kk : zJ E k n nn v q N f (pc + 3) lo (zi (v a 6) :: st)) : zJ E k n nn v q N f pc lo (zr a :: st) := y_getI (Cn := RX12) (T := TX12) C G (by decide) rfl hin 6 rfl (by decide) rfl hlink rfl d kk
theorem yc_V (C : zC E nn cc own Ts) {o : Nat} {zz : Prop} {R' : Room} (ho : zEo E = o) (hz : zEz E = zz) (hz0 : zz = False) (hRm : zER E = R') {y : MethodName} {wsy ws' : List Cond} {rm : Room} {a ci NN idx nA maxL : Nat} {Cn : String} {T : u_T} {bytes : ByteArray} {ret' : Option FieldType} {As : List zAV} {Pf : Prop} {ret : Option zAV} {v1 : zHp}
    (M : zCT (zEl E) y wsy rm (zED E) (zEi E) (zEb E) o zz nn (zr a :: As) v nn Pf ret v1 0 0) (G : zG E nn a ci NN) (hci : ci < 20) (hc : vwCl[ci]? = some (Cn, T, NN)) (hG : GoodIn Ts (wsV own idx Cn y wsy)) (hw : wsy = .code y bytes maxL ret' :: ws')
    (hd : y.cls = Cn ∧ y.cls ≠ "java/lang/invoke/MethodHandle" ∧ y.cls ≠ "java/lang/invoke/VarHandle" ∧ (parseMethodDescriptor y.desc).map (fun d => d.parameters.length) = some nA) (hn : As.length = nA) (hR0 : rm.cells = 0 ∧ rm.slots = 0) (hR : rm.frames + 1 ≤ R'.frames ∧ 8 + (maxL + 11) + rm.locals ≤ R'.locals) (hF : k ≤ R'.cells ∧ n ≤ R'.slots) (st : List zAV) (hst : stk = As.reverse ++ zr a :: st) (hl8 : st.length ≤ 8) (d : decode cc pc = .ok (.invokevirtual idx, 3))
    (stk' : List zAV) (hs' : ret.toList ++ st = stk') (kk : Pf → zJ E k n nn v1 q N f (pc + 3) lo stk') : zJ E k n nn v q N f pc lo stk := by
  subst ho hz hRm hst hs'
  obtain ⟨hk, h1, h2⟩ := id G
  intro H locs ls hP hS hZ hl
  obtain ⟨hx, hb, hown, hts, hK, hlocks, hml, hA, hAn⟩ := id C
  have hcat : ((st.map (zxv (zEb E))).map fun v => v.category).sum ≤ 8 := by
    have e : ∀ l : List zAV, ((l.map (zxv (zEb E))).map fun v => v.category).sum = l.length := by
      intro l
      induction l with
      | nil => rfl
      | cons x t ih => simp only [List.map_cons, List.sum_cons, List.length_cons, zxv_cat, ih]; omega
    rw [e]; exact hl8
  have hmap : (As.reverse ++ zr a :: st).map (zxv (zEb E)) = (As.map (zxv (zEb E))).reverse ++ .ref (zEb E + a) :: st.map (zxv (zEb E)) := by simp [zxv]
  rw [hmap]
  have hr := va_runV (p := zEp E) (l := zEl E) (e := zEe E) (R := zER E) (below := zEbe E) (meth := zEme E) (locs := locs) (cells := k) (slots := n) (g := F0 (zEm E) pc ls ((As.map (zxv (zEb E))).reverse ++ .ref (zEb E + a) :: st.map (zxv (zEb E)))) ⟨hx, hb, hml, hown, hts⟩ (M H.size) (cwV nA hts hG hw hR0.1 hR0.2 hd hR) ⟨zPre_blind, va_recv hK (zjP hP.1) hc (q0 := a - zEo E) (by rw [zwl_at h1 h2, hk, zec_obj hci]), fun U hU hW => ⟨rfl, by rw [hU], ⟨by rw [hU]; exact zjP hP.1, va_K.moved hW.alike hK, fun z => by rw [hz0] at z; exact z.elim⟩⟩⟩ rfl (by simpa using hn) hl.1 rfl (lv_room hcat) d hF
  intro T hT X
  obtain ⟨v', st₀, t, T', L, h0, X', hL, e1, e2, ⟨⟨hpf, hv, hws⟩, hFr⟩, stp⟩ := hr T hT X
  cases hv
  have hAA : ∀ q, zA (zEb E) (zEo E) nn H.size q → (zEA E) q := by
    intro q hq
    rcases hq with ⟨h1, h2⟩ | h1
    · have := hAn (q - zEb E - zEo E) (by omega)
      have e : zEb E + (zEo E + (q - zEb E - zEo E)) = q := by omega
      rwa [e] at this
    · exact hA q (Nat.le_trans hS.1 h1)
  obtain ⟨hzz, hkk⟩ := hFr
  rw [h0] at hzz hkk
  have hS1 : va_S (zEA E) (zEH E) T'.heap (locs ++ L) := ⟨Nat.le_trans hS.1 (by rw [e1]; exact hzz), fun q h1 h2 => by rw [e1, hkk q (Nat.lt_of_lt_of_le h1 hS.1) (fun z => h2 (hAA q z))]; exact hS.2.1 q h1 h2, fun q hq => by
      rcases List.mem_append.mp hq with h | h
      · exact hS.2.2 q h
      · exact hAA _ (hL q h)⟩
  have hqat := hP.1 nn _ zjq
  have hq1 : q < H.size := hqat.lt
  have hq2 : ¬ zA (zEb E) (zEo E) nn H.size q := by
    rintro (⟨g1, g2⟩ | g1)
    · exact hP.2.1 (q - zEb E - zEo E) (by omega) (by omega)
    · omega
  have hP1 : va_P (zED E) vwCl (zjw (zEi E) (zEb E) (zEo E) nn v1 q N f) T'.heap := by
    rw [e1]
    refine va_P.app hws.1 (fun j x hx => ?_)
    have h9 := List.mem_of_getElem? hx
    simp at h9
    subst h9
    exact hqat.kept (hkk q hq1 hq2)
  obtain ⟨t2, a1, b1⟩ := kk hpf T'.heap (locs ++ L) ls ⟨hP1, hP.2⟩ hS1 hZ hl T' rfl X'
  refine ⟨t2, stp t2 ?_, b1⟩
  cases ret with
  | none => exact a1
  | some x => exact a1
theorem zc_VA (C : zC E nn cc own Ts) {o : Nat} {zz : Prop} {R' : Room} (ho : zEo E = o) (hz : zEz E = zz) (hRm : zER E = R') {y : MethodName} {wsy ws' : List Cond} {rm : Room} {a ci N idx nA maxL : Nat} {Cn : String} {mc ms k' n' : Nat} {T : u_T} {bytes : ByteArray} {ret' : Option FieldType} {As : List zAV} {Pf : Prop} {ret : Option zAV} {v1 : zHp}
    (M : zCT (zEl E) y wsy rm (zED E) (zEi E) (zEb E) o zz nn (zr a :: As) v nn Pf ret v1 mc ms) (G : zG E nn a ci N) (hci : ci < 20) (hc : vwCl[ci]? = some (Cn, T, N)) (hG : GoodIn Ts (wsV own idx Cn y wsy)) (hw : wsy = .code y bytes maxL ret' :: ws')
    (hd : y.cls = Cn ∧ y.cls ≠ "java/lang/invoke/MethodHandle" ∧ y.cls ≠ "java/lang/invoke/VarHandle" ∧ (parseMethodDescriptor y.desc).map (fun d => d.parameters.length) = some nA) (hn : As.length = nA) (hR0 : rm.cells = mc ∧ rm.slots = ms) (hR : rm.frames + 1 ≤ R'.frames ∧ 8 + (maxL + 11) + rm.locals ≤ R'.locals) (hK : k + mc = k' ∧ n + ms = n') (hF : k' ≤ R'.cells ∧ n' ≤ R'.slots) (st : List zAV) (hst : stk = As.reverse ++ zr a :: st) (hl8 : st.length ≤ 8) (d : decode cc pc = .ok (.invokevirtual idx, 3))
    (stk' : List zAV) (hs' : ret.toList ++ st = stk') (kk : Pf → zX E k' n' nn v1 (pc + 3) lo stk') : zX E k n nn v pc lo stk := by
  subst hs'
  obtain ⟨rfl, rfl⟩ := hK
  exact z_callV C ho hz hRm M G hci hc hG hw hd hn ⟨hR0, hR, hF⟩ hst hl8 d kk
theorem zc_SA (C : zC E nn cc own Ts) {o : Nat} {zz : Prop} {R' : Room} (ho : zEo E = o) (hz : zEz E = zz) (hRm : zER E = R') {y : MethodName} {wsy ws' : List Cond} {rm : Room} {idx nA maxL : Nat} {Cn : String} {mc ms k' n' : Nat} {bytes : ByteArray} {ret' : Option FieldType} {As : List zAV} {Pf : Prop} {ret : Option zAV} {v1 : zHp}
    (M : zCT (zEl E) y wsy rm (zED E) (zEi E) (zEb E) o zz nn As v nn Pf ret v1 mc ms) (hG : GoodIn Ts (va_wsS own idx y wsy)) (hw : wsy = .code y bytes maxL ret' :: ws')
    (hd : y.cls = Cn ∧ y.cls ≠ "java/lang/invoke/MethodHandle" ∧ y.cls ≠ "java/lang/invoke/VarHandle" ∧ (parseMethodDescriptor y.desc).map (fun d => d.parameters.length) = some nA) (hn : As.length = nA) (hR0 : rm.cells = mc ∧ rm.slots = ms) (hR : rm.frames + 1 ≤ R'.frames ∧ 8 + (maxL + 11) + rm.locals ≤ R'.locals) (hK : k + mc = k' ∧ n + ms = n') (hF : k' ≤ R'.cells ∧ n' ≤ R'.slots) (st : List zAV) (hst : stk = As.reverse ++ st) (hl8 : st.length ≤ 8) (d : decode cc pc = .ok (.invokestatic idx, 3))
    (stk' : List zAV) (hs' : ret.toList ++ st = stk') (kk : Pf → zX E k' n' nn v1 (pc + 3) lo stk') : zX E k n nn v pc lo stk := by
  subst hs'
  obtain ⟨rfl, rfl⟩ := hK
  exact z_callS C ho hz hRm M hG hw hd hn ⟨hR0, hR, hF⟩ hst hl8 d kk
end ZJ
