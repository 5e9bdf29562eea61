/-! what is left: no machine in it. My own text. -/
def zPure : Prop := ∀ (L : Nat) (xs : Nat → Int32), L ≤ 3072 → ∃ (S : Nat → zHp × zHp) (r1 r2 : Int), fX11_init (zfr z0 0) = some ((S 0).1, r1) ∧ fX12_init (zfr (S 0).1 137) = some ((S 0).2, r2) ∧ (∀ a : Nat, a < 137 → ∀ j d : Nat, zlk (zK a).1 j a = some d → (S 0).1 a (j : Int) = (d : Int)) ∧ ∀ j : Nat, 6 * j + 5 < L → zStep xs (6 * (j : Int)) (S j).1 (S j).2 (S (j + 1)).1 (S (j + 1)).2
theorem start_of (hp : zPure) {p : Program} {e : Env} {s : State} {m : MethodId} {below : List Frame} {meth : Method} {c : Code} (l : Launch) (hflags : l.flags = flags0) {b L : Nat} {xs : Nat → Int32} (hL : L ≤ 3072) (C0 : lw_At p s m meth c b L xs) : W p l e room_1 s m #[Value.ref b] below meth c s.heap [] 0 0 (lw_Z below #[Value.ref b] s) (entryFrame m ([Value.ref b] : List Value).toArray 7) := by
  obtain ⟨S, r1, r2, h1, h2, hV, hS⟩ := hp L xs hL
  have hts := C0.2.2.2.2.2.1
  have hgv := C0.2.2.2.2.2.2.2.2.2
  obtain ⟨D, ids, idJ, hK⟩ := ww_K hts
  obtain ⟨ad, adV, hZs⟩ := ww_S hts hgv
  exact law_runs l (ww_F hflags) hL C0 hK (ww_N hts) hZs (ww_T hts hgv) S h1 h2 hV hS
/-- by an invariant of the two heaps -/
theorem pure_of (I : zHp → zHp → Prop) (h0 : ∃ (vC vM : zHp) (r1 r2 : Int), fX11_init (zfr z0 0) = some (vC, r1) ∧ fX12_init (zfr vC 137) = some (vM, r2) ∧ (∀ a : Nat, a < 137 → ∀ j d : Nat, zlk (zK a).1 j a = some d → vC a (j : Int) = (d : Int)) ∧ I vC vM) (hstep : ∀ (xs : Nat → Int32) (i : Int) (vC vM : zHp), I vC vM → ∃ vC' vM' : zHp, zStep xs i vC vM vC' vM' ∧ I vC' vM') : zPure := by
  intro L xs hL
  obtain ⟨vC, vM, r1, r2, h1, h2, hV, hI⟩ := h0
  have hex : ∀ (j : Nat) (q : { q : zHp × zHp // I q.1 q.2 }), ∃ q' : { q : zHp × zHp // I q.1 q.2 }, zStep xs (6 * (j : Int)) q.1.1 q.1.2 q'.1.1 q'.1.2 := fun j q => by
    obtain ⟨a, b, g1, g2⟩ := hstep xs (6 * (j : Int)) q.1.1 q.1.2 q.2
    exact ⟨⟨(a, b), g2⟩, g1⟩
  let F : Nat → { q : zHp × zHp // I q.1 q.2 } := fun n => Nat.rec ⟨(vC, vM), hI⟩ (fun j q => Classical.choose (hex j q)) n
  exact ⟨fun n => (F n).1, r1, r2, h1, h2, hV, fun j _ => Classical.choose_spec (hex j (F j))⟩
