/-! the law, run: what is left are the start's words and the two sides' functions. My own text. -/
theorem w_dropL {p : Program} {l : Launch} {e : Env} {R : Room} {s : State} {m : MethodId} {args : Array Value} {below : List Frame} {meth : Method} {c : Code} {H : Heap} {locs : List Loc} {cells slots : Nat} {Q : State → Prop} {g : JFrame} (hf : ∀ x ∈ locs, s.heap.size ≤ x.base) (kk : W p l e R s m args below meth c H [] cells slots Q g) : W p l e R s m args below meth c H locs cells slots Q g := by
  intro T hT X
  refine kk T hT { X with same := ?_ }
  obtain ⟨h1, h2, h3, h4, h5, h6⟩ := X.same
  refine ⟨h1, h2, h3, h4, h5, fun a c hc => ?_⟩
  obtain ⟨c', e1, e2, e3, e4⟩ := h6 a c hc
  refine ⟨c', e1, e2, e3, fun i _ => e4 i fun hm => ?_⟩
  have h7 : s.heap.size ≤ a := hf _ hm
  have h8 := (Array.getElem?_eq_some_iff.mp hc).1
  omega
set_option maxRecDepth 100000 in
set_option maxHeartbeats 4000000 in
/-- the law ends with true, if the start's words hold and each round's two answers are alike -/
theorem law_runs {p : Program} {e : Env} {s : State} {m : MethodId} {below : List Frame} {meth : Method} {c : Code} (l : Launch) (hst : l.stackTraces = false) {b L : Nat} {xs : Nat → Int32} (hL : L ≤ 3072) (C0 : lw_At p s m meth c b L xs) {D : va_G} {ids : Nat → ClassId} {idJ : ClassId} {ad adV : Nat → Nat} (hKL : va_K D vwCl (ztysL ids idJ) s) (hNw : zNw s) (hZs : zStr ad adV (fun q => s.heap.size ≤ q) s s.heap) (hTw : zTw (fun q => s.heap.size ≤ q) s s.heap)
    {r1 r2 : Int} (S : Nat → zHp × zHp) (h1 : fX11_init (zfr z0 0) = some ((S 0).1, r1)) (h2 : fX12_init (zfr (S 0).1 137) = some ((S 0).2, r2)) (hLk : ∀ a : Nat, a < 137 → ∀ j d : Nat, zlk (zK a).1 j a = some d → (S 0).1 a (j : Int) = (d : Int)) (hS : ∀ j : Nat, 6 * j + 5 < L → zStep xs (6 * (j : Int)) (S j).1 (S j).2 (S (j + 1)).1 (S (j + 1)).2) :
    W p l e room_1 s m #[Value.ref b] below meth c s.heap [] 0 0 (lw_Z below #[Value.ref b] s) (entryFrame m ([Value.ref b] : List Value).toArray 7) := by
  obtain ⟨hx, hb, hr, hml, hown, hts, hX, hbl, hlocks, hgv⟩ := C0
  have hK : va_K D vwCl (ztys ids) s := hKL.sub [0, 1, 2, 3, 4, 5] rfl
  have hw : ∀ w ∈ zTL, w.before #[Value.ref b] s = true := fun w h => hts w (zbig_in ((List.mem_cons.mp h).elim (fun e => by rw [e]; exact zwd_0) id))
  have hl := lv_entry ([zs b].map (zxv s.heap.size)) (n := 7) (by rw [lg_sl_len]; exact Nat.le_of_ble_eq_true rfl)
  have hent : ([Value.ref b] : List Value).toArray = ([zs b].map (zxv s.heap.size)).toArray := rfl
  rw [hent, lg_entry_eq]
  generalize (lg_sl ([zs b].map (zxv s.heap.size)) ++ List.replicate (7 - (lg_sl ([zs b].map (zxv s.heap.size))).length) Slot.unset).toArray = ls at hl ⊢
  obtain ⟨E, hE⟩ : ∃ E : zE, E = ((p, l, e, room_1, s), (m, #[Value.ref b], below, meth, c), (D, ids, s.heap.size, 0, True), (s.heap, (fun q => s.heap.size ≤ q), 7, lw_Z below #[Value.ref b] s)) := ⟨_, rfl⟩
  have hC : ∀ nn, zC E nn cL_law RL zTL := by
    intro nn
    subst hE
    exact ⟨hx, hb, hown, hw, hK, hlocks, hml, fun q h => h, fun i _ => by show s.heap.size ≤ s.heap.size + (0 + i); omega⟩
  have hend : ∀ (k n : Nat) (ws : va_W) (lo : List (Option zAV)), k ≤ 601024 → n ≤ 7293034 → zY E k n ws 1279 lo [zi 1] := by
    intro k n ws lo hk hn
    subst hE
    intro H locs ls hP hS9 hZ hl9
    show W p l e room_1 s m #[Value.ref b] below meth c H locs k n (lw_Z below #[Value.ref b] s) (F0 m 1279 ls [.int 1])
    exact W.widen hk hn (w_dropL hS9.2.2 (lw_ret hx hb hr hlocks (zd tL_law20 36 rfl)))
  have K : zX E 0 0 0 z0 0 [some (zs b), none, none, none, none, none, none] [] := by
    refine law_init (idJ := idJ) (hC 0) (by subst hE; exact hKL) (by subst hE; exact hNw) (by subst hE; rfl) (by subst hE; rfl) (by subst hE; rfl) (by subst hE; rfl) (by subst hE; rfl) h1 h2 (fun qa hqa hv0 hvM => ?_)
    have hLC : zLC E idJ qa b L xs ad adV := by
      refine ⟨hC 161, ?_⟩
      subst hE
      exact ⟨hKL, hZs, hTw, rfl, rfl, hst, fun q h => h, hqa, ⟨hX, hbl, Nat.not_le.mpr hbl⟩, hL⟩
    have h6 : L / 6 ≤ 512 := by omega
    have hk1 : 162 + 260 * (L / 6) ≤ 601024 := by omega
    have hn1 : 558816 + 2080 * (L / 6) ≤ 7293034 := by omega
    exact law_loop hLC S hS hend (L / 6) 0 162 558816 (fun _ => 0) rfl (Nat.zero_le _) hk1 hn1 ⟨hv0.1, fun a _ h j d hd => hLk a (by omega) j d hd⟩ hvM
  subst hE
  refine K s.heap [] ls (fun j x hx2 => by cases hx2) va_S.rf (fun _ => rfl) ⟨hl.1, hl.2.1, fun q hq => ?_⟩
  obtain ⟨x, g1, g2⟩ := zpr_mem.mp hq
  have h3 := zpr_args (b := s.heap.size) [zs b] 0 6 q x g1 g2
  rw [Nat.zero_add] at h3
  exact hl.2.2 q h3
