/-! THE CONSTRUCTORS: the kinds of all addresses are fixed ahead; a cell is there as soon as the heap has grown past it -/
def bz_U (G : bz_G) (σ : bz_W) (H : Heap) : Prop := (∀ a, (bz_k G a).1 ≠ 0 → a < H.size → va_at G.1 vwCl (a, bz_F G σ a) H) ∧ ∀ a, H.size ≤ a → σ.1 a = (fun _ => 0) ∧ σ.2 a = fun _ => 0
def bz_HU (G : bz_G) (s : State) (σ : bz_W) (H : Heap) (locs : List Loc) (sz : Nat) : Prop := bz_U G σ H ∧ H.size = sz ∧ va_S (bz_A G) s.heap H locs
def bz_MI (l : Launch) (y : MethodName) (ws : List Cond) (fr lo mc ms : Nat) (G : bz_G) (σ : bz_W) (sz : Nat) (As : List Value) (τ : bz_W) : Prop :=
  Met l y ws ({ frames := fr, cells := mc, slots := ms, locals := lo }) (va_Pc As (fun U => U.heap.size = sz ∧ bz_K G U ∧ bz_S G U U.heap ∧ bz_U G σ U.heap)) (fun _ st oc t => (oc = .returned none ∧ t.heap.size = sz + mc ∧ bz_U G τ t.heap) ∧ va_F (bz_A G) st t) mc ms (bz_A G)
theorem bz_in {G : bz_G} (hZ : bz_Z G) {a : Nat} (ha : (bz_k G a).1 ≠ 0) : bz_A G a := by
  obtain ⟨i, hi⟩ := va_pl_get (X := []) (f := fun _ => .inr (0, [])) (hZ.2.1 a ha)
  rw [List.nil_append] at hi
  exact (hZ.1 (fun _ => .inr (0, []))).2 i _ hi
theorem bz_U.put {G : bz_G} {σ τ : bz_W} {H H1 : Heap} (h : bz_U G σ H) {a : Nat} (hlt : a < H.size) (ht : ∀ b, b ≠ a → τ.1 b = σ.1 b ∧ τ.2 b = σ.2 b) (hz : H1.size = H.size) (hq : ∀ q, q ≠ a → H1[q]? = H[q]?) (hat : va_at G.1 vwCl (a, bz_F G τ a) H1) : bz_U G τ H1 := by
  refine ⟨fun b hb hl => ?_, fun b hb => ?_⟩
  · by_cases e : b = a
    · subst e
      exact hat
    · have e1 : bz_F G τ b = bz_F G σ b := by
        unfold bz_F
        rw [(ht b e).1, (ht b e).2]
      rw [e1]
      exact (h.1 b hb (by omega)).kept (hq b e)
  · have e : b ≠ a := by omega
    rw [(ht b e).1, (ht b e).2]
    exact h.2 b (by omega)
theorem bz_U.grow {G : bz_G} {σ : bz_W} {H H1 : Heap} (h : bz_U G σ H) (hz : H1.size = H.size + 1) (hq : ∀ q, q < H.size → H1[q]? = H[q]?) (hat : (bz_k G H.size).1 ≠ 0 → va_at G.1 vwCl (H.size, bz_cE (bz_cy G) (bz_k G H.size) (fun _ => 0) (fun _ => 0)) H1) : bz_U G σ H1 := by
  refine ⟨fun b hb hl => ?_, fun b hb => h.2 b (by omega)⟩
  by_cases e : b = H.size
  · subst e
    have e1 : bz_F G σ H.size = bz_cE (bz_cy G) (bz_k G H.size) (fun _ => 0) (fun _ => 0) := by
      unfold bz_F
      rw [(h.2 H.size (Nat.le_refl _)).1, (h.2 H.size (Nat.le_refl _)).2]
    rw [e1]
    exact hat hb
  · exact (h.1 b hb (by omega)).kept (hq b (by omega))
theorem bz_wr_o2 {σ : bz_W} {a k r : Nat} : ∀ b, b ≠ a → (bz_wr σ a k r).1 b = σ.1 b ∧ (bz_wr σ a k r).2 b = σ.2 b := bz_wr_o
section BI
variable {p : Program} {l : Launch} {e : Env} {R : Room} {s : State} {m : MethodId} {args : Array Value} {below : List Frame} {meth : Method} {c : Code} {H : Heap} {locs : List Loc} {cells slots : Nat} {Q : State → Prop}
variable {cc : ByteArray} {nL pc : Nat} {ls : Array Slot} {rest : List Value} {own : String} {Ts : List Cond} {G : bz_G} {σ : bz_W} {sz : Nat}
theorem bz_HU.grown (h : bz_HU G s σ H locs sz) {H1 : Heap} (z1 : H1.size = sz + 1) (o1 : ∀ q, q < sz → H1[q]? = H[q]?) (hat : (bz_k G sz).1 ≠ 0 → va_at G.1 vwCl (sz, bz_cE (bz_cy G) (bz_k G sz) (fun _ => 0) (fun _ => 0)) H1) : bz_HU G s σ H1 locs (sz + 1) := by
  obtain ⟨h1, h2, h3⟩ := h
  subst h2
  exact ⟨h1.grow z1 o1 hat, z1, Nat.le_trans h3.1 (by omega), fun x g1 g2 => (o1 x (Nat.lt_of_lt_of_le g1 h3.1)).trans (h3.2.1 x g1 g2), h3.2.2⟩
theorem bz_HU.stored (hZ : bz_Z G) (h : bz_HU G s σ H locs sz) {τ : bz_W} {a k : Nat} (hk : (bz_k G a).1 ≠ 0) (hlt : a < sz) {H1 : Heap} (ht : ∀ b, b ≠ a → τ.1 b = σ.1 b ∧ τ.2 b = σ.2 b) (hz : H1.size = H.size) (hq : ∀ q, q ≠ a → H1[q]? = H[q]?) (hat : va_at G.1 vwCl (a, bz_F G τ a) H1) : bz_HU G s τ H1 (locs ++ [⟨a, k⟩]) sz := by
  obtain ⟨h1, h2, h3⟩ := h
  subst h2
  exact ⟨h1.put hlt ht hz hq hat, hz, h3.put hz hq (bz_in hZ hk)⟩
theorem bz_newc (C : bz_C p s m c args cc nL own Ts G) (h : bz_HU G s σ H locs sz) {ci N index : Nat} (hk : bz_k G sz = (ci + 1, 0)) {Cn : String} {T : u_T} (hc : vwCl[ci]? = some (Cn, T, N)) (hin : ∀ w ∈ u_ws Cn T N, w ∈ Ts) (ty : Nat → FieldType) (hty : ∀ k, k < N → parseFieldDescriptor (T k).2.2.1 = some (ty k)) (hcl : Cond.classLink own index Cn ∈ Ts) (hinst : Cond.instantiable Cn N ∈ Ts) (hini : Cond.initialized Cn ∈ Ts) {fs : List Value} (he : bz_cE (bz_cy G) (ci + 1, 0) (fun _ => 0) (fun _ => 0) = .inr (ci, fs)) (hfs : ∀ j, j < N → defaultValue (ty j) = vp_V fs j) (hcells : cells + 1 ≤ R.cells) (hslots : slots + N ≤ R.slots) (hdg : decode cc pc = .ok (.new index, 3))
    (kk : ∀ H1 : Heap, bz_HU G s σ H1 locs (sz + 1) → W p l e R s m args below meth c H1 locs (cells + 1) (slots + N) Q (F0 m (pc + 3) ls (.ref sz :: rest))) : W p l e R s m args below meth c H locs cells slots Q (F0 m pc ls rest) := by
  obtain ⟨hx, hb, -, hown, hts, hK, -⟩ := C
  have hKn := hK.1.1 ci _ hc
  refine W.newcK hx hb hown (hts _ hcl) (hts _ hinst) (hts _ hini) rfl hdg hcells hslots hKn.2.1 h.2.1 fun H1 kC hkC e1 z1 o1 => kk H1 (h.grown z1 o1 fun _ => ?_)
  rw [hk, he]
  exact ⟨_, hc, (u_born ty hts hin hKn hkC e1 hty).to hfs⟩
theorem bz_newi (C : bz_C p s m c args cc nL own Ts G) (h : bz_HU G s σ H locs sz) {N : Nat} (hk : bz_k G sz = (9, N)) (harr : Cond.arrayClass .int ∈ Ts) {n : Int32} (hn : ¬ n < 0) (hN : n.toNatClampNeg = N) (hbytes : N * 4 ≤ 536870912) (hcells : cells + 1 ≤ R.cells) (hslots : slots + N ≤ R.slots) (hdg : decode cc pc = .ok (.newarray .int, 2))
    (kk : ∀ H1 : Heap, bz_HU G s σ H1 locs (sz + 1) → W p l e R s m args below meth c H1 locs (cells + 1) (slots + N) Q (F0 m (pc + 2) ls (.ref sz :: rest))) : W p l e R s m args below meth c H locs cells slots Q (F0 m pc ls (.int n :: rest)) := by
  obtain ⟨hx, hb, -, hown, hts, hK, -⟩ := C
  have hra : s.vm.findClass ("[" ++ FieldType.int.toString) = some (bz_cy G 0) := (hK.1.2 0 _ rfl).2
  refine va_newaK (atype := .int) hx hb (hts _ harr) rfl hdg rfl hn hN hbytes hcells hslots h.2.1 fun H1 cA e1 z1 o1 hAr hNm => kk H1 (h.grown z1 o1 fun _ => ?_)
  have e2 : cA = bz_cy G 0 := Option.some.inj (hNm.symm.trans hra)
  rw [hk]
  show H1[sz]? = some (vp_cell (bz_cy G 0) (N, .inl (fun _ => 0)))
  rw [e1, e2]
  rfl
theorem bz_newch (C : bz_C p s m c args cc nL own Ts G) (h : bz_HU G s σ H locs sz) {N : Nat} (hk : bz_k G sz = (10, N)) (harr : Cond.arrayClass .char ∈ Ts) {n : Int32} (hn : ¬ n < 0) (hN : n.toNatClampNeg = N) (hbytes : N * 2 ≤ 536870912) (hcells : cells + 1 ≤ R.cells) (hslots : slots + N ≤ R.slots) (hdg : decode cc pc = .ok (.newarray .char, 2))
    (kk : ∀ H1 : Heap, bz_HU G s σ H1 locs (sz + 1) → W p l e R s m args below meth c H1 locs (cells + 1) (slots + N) Q (F0 m (pc + 2) ls (.ref sz :: rest))) : W p l e R s m args below meth c H locs cells slots Q (F0 m pc ls (.int n :: rest)) := by
  obtain ⟨hx, hb, -, hown, hts, hK, -⟩ := C
  have hra : s.vm.findClass ("[" ++ FieldType.char.toString) = some (bz_cy G 1) := (hK.1.2 1 _ rfl).2
  refine va_newaK (atype := .char) hx hb (hts _ harr) rfl hdg rfl hn hN hbytes hcells hslots h.2.1 fun H1 cA e1 z1 o1 hAr hNm => kk H1 (h.grown z1 o1 fun _ => ?_)
  have e2 : cA = bz_cy G 1 := Option.some.inj (hNm.symm.trans hra)
  rw [hk]
  show H1[sz]? = some (vp_cell (bz_cy G 1) (N, .inl (fun _ => 0)))
  rw [e1, e2]
  rfl
theorem bz_newam (C : bz_C p s m c args cc nL own Ts G) (h : bz_HU G s σ H locs sz) {N index : Nat} (hk : bz_k G sz = (11, N)) (hcl : Cond.classLink own index RX2 ∈ Ts) {n : Int32} (hn : ¬ n < 0) (hN : n.toNatClampNeg = N) (hbytes : N * 4 ≤ 536870912) (hcells : cells + 1 ≤ R.cells) (hslots : slots + N ≤ R.slots) (hdg : decode cc pc = .ok (.anewarray index, 3))
    (kk : ∀ H1 : Heap, bz_HU G s σ H1 locs (sz + 1) → W p l e R s m args below meth c H1 locs (cells + 1) (slots + N) Q (F0 m (pc + 3) ls (.ref sz :: rest))) : W p l e R s m args below meth c H locs cells slots Q (F0 m pc ls (.int n :: rest)) := by
  obtain ⟨hx, hb, -, hown, hts, hK, -⟩ := C
  subst hN
  obtain ⟨kA', comp', -, -, -, hra⟩ := (hK.1.2 2 _ rfl).2
  refine W.anew hx hb hown (hts _ hcl) (va_AO.use hK.2.1.2.2.2.2.2.1) rfl hdg rfl hn hbytes hcells hslots fun cA kA comp f1 f2 f3 f4 => ?_
  generalize hH1 : H.push ({ cls := cA, slots := Array.replicate n.toNatClampNeg .null, vm := .none } : Cell) = H1
  have hsz := h.2.1
  have z1 : H1.size = sz + 1 := by rw [← hH1, Array.size_push, hsz]
  have e1 : H1[sz]? = some (arrV cA n.toNatClampNeg (fun _ => .null)) := by rw [← hH1, ← hsz, Array.getElem?_push_size, ← arrV_new]
  have o1 : ∀ q : Nat, q < sz → H1[q]? = H[q]? := fun q hq => by rw [← hH1, Array.getElem?_push, if_neg (by omega)]
  have e2 : cA = bz_cy G 2 := Option.some.inj (f1.symm.trans hra)
  rw [hsz]
  refine kk H1 (h.grown z1 o1 fun _ => ?_)
  rw [hk]
  show H1[sz]? = some (vp_cell (bz_cy G 2) (n.toNatClampNeg, .inr (.inr (.inr (.inr (fun _ => bz_ro 0))))))
  rw [e1, e2]
  rfl
theorem bz_newas (C : bz_C p s m c args cc nL own Ts G) (h : bz_HU G s σ H locs sz) {N index : Nat} (hk : bz_k G sz = (12, N)) (hcl : Cond.classLink own index RX3 ∈ Ts) {n : Int32} (hn : ¬ n < 0) (hN : n.toNatClampNeg = N) (hbytes : N * 4 ≤ 536870912) (hcells : cells + 1 ≤ R.cells) (hslots : slots + N ≤ R.slots) (hdg : decode cc pc = .ok (.anewarray index, 3))
    (kk : ∀ H1 : Heap, bz_HU G s σ H1 locs (sz + 1) → W p l e R s m args below meth c H1 locs (cells + 1) (slots + N) Q (F0 m (pc + 3) ls (.ref sz :: rest))) : W p l e R s m args below meth c H locs cells slots Q (F0 m pc ls (.int n :: rest)) := by
  obtain ⟨hx, hb, -, hown, hts, hK, -⟩ := C
  subst hN
  obtain ⟨kA', comp', -, -, -, hra⟩ := (hK.1.2 3 _ rfl).2
  refine W.anew hx hb hown (hts _ hcl) (va_AO.use hK.2.1.2.2.2.2.2.2) rfl hdg rfl hn hbytes hcells hslots fun cA kA comp f1 f2 f3 f4 => ?_
  generalize hH1 : H.push ({ cls := cA, slots := Array.replicate n.toNatClampNeg .null, vm := .none } : Cell) = H1
  have hsz := h.2.1
  have z1 : H1.size = sz + 1 := by rw [← hH1, Array.size_push, hsz]
  have e1 : H1[sz]? = some (arrV cA n.toNatClampNeg (fun _ => .null)) := by rw [← hH1, ← hsz, Array.getElem?_push_size, ← arrV_new]
  have o1 : ∀ q : Nat, q < sz → H1[q]? = H[q]? := fun q hq => by rw [← hH1, Array.getElem?_push, if_neg (by omega)]
  have e2 : cA = bz_cy G 3 := Option.some.inj (f1.symm.trans hra)
  rw [hsz]
  refine kk H1 (h.grown z1 o1 fun _ => ?_)
  rw [hk]
  show H1[sz]? = some (vp_cell (bz_cy G 3) (n.toNatClampNeg, .inr (.inr (.inr (.inr (fun _ => bz_ro 0))))))
  rw [e1, e2]
  rfl
theorem bz_putF (C : bz_C p s m c args cc nL own Ts G) (hnm2 : meth.name = "<init>") (h : bz_HU G s σ H locs sz) {a : Nat} {kd : Nat × Nat} (ha : bz_k G a = kd) (hk0 : kd.1 ≠ 0) (hlt : a < sz) {ci : Nat} {fs : List Value} (he : bz_cE (bz_cy G) kd (σ.1 a) (σ.2 a) = .inr (ci, fs)) {Cn : String} {T : u_T} {N index : Nat} (hc : vwCl[ci]? = some (Cn, T, N)) (k : Nat) (hk : k < N) (hin : ∀ w ∈ u_ws Cn T N, w ∈ Ts) (ty0 : Nat → FieldType) (hty : ∀ k, k < N → parseFieldDescriptor (T k).2.2.1 = some (ty0 k)) (hnm : ∀ a, a < N → ∀ b, b < N → a ≠ b → (T a).2.1 ≠ (T b).2.1) (hlink : Cond.fieldLink own index (T k).1 (T k).2.1 (T k).2.2.1 ∈ Ts) (hfin : (T k).2.2.2 = true) (hdecl : (T k).1 = own) {v : Value} (hn : narrow (ty0 k) v = v) (hfit : fits (ty0 k) v = true) (hl : k < fs.length) {τ : bz_W} (ht : ∀ b, b ≠ a → τ.1 b = σ.1 b ∧ τ.2 b = σ.2 b)
    (h2 : bz_cE (bz_cy G) kd (τ.1 a) (τ.2 a) = .inr (ci, fs.set k v)) (hdg : decode cc pc = .ok (.putfield index, 3))
    (kk : ∀ (H1 : Heap) (locs1 : List Loc), bz_HU G s τ H1 locs1 sz → W p l e R s m args below meth c H1 locs1 cells slots Q (F0 m (pc + 3) ls rest)) : W p l e R s m args below meth c H locs cells slots Q (F0 m pc ls (v :: .ref a :: rest)) := by
  obtain ⟨hx, hb, -, hown, hts, hK, -⟩ := C
  have hap := va_apart (own := own) hts hin ty0 hty hnm hK.1 hc
  have hat := h.1.1 a (by rw [ha]; exact hk0) (by rw [h.2.1]; exact hlt)
  have e0 : bz_F G σ a = .inr (ci, fs) := by
    unfold bz_F
    rw [ha, he]
  rw [e0] at hat
  obtain ⟨r, h1, cell, q1, q2, q3, q4⟩ := hat
  have hr : r = (Cn, T, N) := Option.some.inj (h1.symm.trans hc)
  subst hr
  obtain ⟨hS, hfc, kC, hkC, hkind⟩ := hK.1.1 ci _ hc
  obtain ⟨cf, kf, fi, f, hi, hsl⟩ := hS k hk
  have hlay := hts _ (hin _ (u_in_lay hk))
  unfold u_lay at hlay
  rw [if_pos hfin] at hlay
  have hst := (u_facts hfc hkC (u_lays hts hin hk) hi).1
  have hcf : m.cls = cf := by
    obtain ⟨_, _, c', _, _, _, -, -, hf', -, -, -, hown2, -⟩ := Cond.laysFinal_spec hlay
    have e1 : c' = cf := by have := hi.symm.trans hf'; simp at this; exact this.1.symm
    rw [hdecl] at hown2
    rw [← e1]; exact Option.some.inj (hown.symm.trans hown2)
  have h6 := u_fits hfc hkC hkind (Or.inr hlay) hi (hty k hk) hn hfit
  refine W.putFinK hx hb hown (hts _ hlink) hi hst hcf hnm2 (by rw [q2]; exact h6) q1 q3 (by rw [hsl]; exact k2_hasslot (q4 k hk)) rfl rfl hdg fun H' e1 e2 e3 => ?_
  rw [hsl] at e1 ⊢
  refine kk H' _ (h.stored hK.2.2.2 (by rw [ha]; exact hk0) hlt ht e2 e3 ?_)
  have e4 : bz_F G τ a = .inr (ci, fs.set k v) := by
    unfold bz_F
    rw [ha, h2]
  rw [e4]
  exact ⟨_, hc, t_OB.to (V := updV (vp_V fs) k v) ⟨_, e1, q2, q3, t_set q4 hap hk v⟩ (fun j _ => vp_updV_set hl v j)⟩
theorem bz_putU (C : bz_C p s m c args cc nL own Ts G) (h : bz_HU G s σ H locs sz) {a : Nat} {kd : Nat × Nat} (ha : bz_k G a = kd) (hk0 : kd.1 ≠ 0) (hlt : a < sz) {ci : Nat} {fs : List Value} (he : bz_cE (bz_cy G) kd (σ.1 a) (σ.2 a) = .inr (ci, fs)) {Cn : String} {T : u_T} {N index : Nat} (hc : vwCl[ci]? = some (Cn, T, N)) (k : Nat) (hk : k < N) (hin : ∀ w ∈ u_ws Cn T N, w ∈ Ts) (ty0 : Nat → FieldType) (hty : ∀ k, k < N → parseFieldDescriptor (T k).2.2.1 = some (ty0 k)) (hnm : ∀ a, a < N → ∀ b, b < N → a ≠ b → (T a).2.1 ≠ (T b).2.1) (hlink : Cond.fieldLink own index (T k).1 (T k).2.1 (T k).2.2.1 ∈ Ts) (hfin : (T k).2.2.2 = false) {v : Value} (hn : narrow (ty0 k) v = v) (hfit : fits (ty0 k) v = true) (hl : k < fs.length) {τ : bz_W} (ht : ∀ b, b ≠ a → τ.1 b = σ.1 b ∧ τ.2 b = σ.2 b)
    (h2 : bz_cE (bz_cy G) kd (τ.1 a) (τ.2 a) = .inr (ci, fs.set k v)) (hdg : decode cc pc = .ok (.putfield index, 3))
    (kk : ∀ (H1 : Heap) (locs1 : List Loc), bz_HU G s τ H1 locs1 sz → W p l e R s m args below meth c H1 locs1 cells slots Q (F0 m (pc + 3) ls rest)) : W p l e R s m args below meth c H locs cells slots Q (F0 m pc ls (v :: .ref a :: rest)) := by
  obtain ⟨hx, hb, -, hown, hts, hK, -⟩ := C
  have hap := va_apart (own := own) hts hin ty0 hty hnm hK.1 hc
  have hat := h.1.1 a (by rw [ha]; exact hk0) (by rw [h.2.1]; exact hlt)
  have e0 : bz_F G σ a = .inr (ci, fs) := by
    unfold bz_F
    rw [ha, he]
  rw [e0] at hat
  obtain ⟨r, h1, cell, q1, q2, q3, q4⟩ := hat
  have hr : r = (Cn, T, N) := Option.some.inj (h1.symm.trans hc)
  subst hr
  obtain ⟨hS, hfc, kC, hkC, hkind⟩ := hK.1.1 ci _ hc
  obtain ⟨cf, kf, fi, f, hi, hsl⟩ := hS k hk
  have hlay := hts _ (hin _ (u_in_lay hk))
  unfold u_lay at hlay
  rw [if_neg (by rw [hfin]; decide)] at hlay
  have hst := (u_facts hfc hkC (u_lays hts hin hk) hi).1
  have h6 := u_store hfc hkC hkind hlay hi (hty k hk) hn hfit
  refine W.putK hx hb (f := f) ⟨hown, hts _ hlink, ⟨_, _, _, hi⟩, hst⟩ (by rw [q2]; exact h6) q1 q3 (by rw [hsl]; exact k2_hasslot (q4 k hk)) rfl rfl hdg fun H' e1 e2 e3 => ?_
  rw [hsl] at e1 ⊢
  refine kk H' _ (h.stored hK.2.2.2 (by rw [ha]; exact hk0) hlt ht e2 e3 ?_)
  have e4 : bz_F G τ a = .inr (ci, fs.set k v) := by
    unfold bz_F
    rw [ha, h2]
  rw [e4]
  exact ⟨_, hc, t_OB.to (V := updV (vp_V fs) k v) ⟨_, e1, q2, q3, t_set q4 hap hk v⟩ (fun j _ => vp_updV_set hl v j)⟩
theorem bz_getU (C : bz_C p s m c args cc nL own Ts G) (h : bz_HU G s σ H locs sz) {a : Nat} {kd : Nat × Nat} (ha : bz_k G a = kd) (hk0 : kd.1 ≠ 0) (hlt : a < sz) {ci : Nat} {fs : List Value} (he : bz_cE (bz_cy G) kd (σ.1 a) (σ.2 a) = .inr (ci, fs)) {Cn : String} {T : u_T} {N index : Nat} (hc : vwCl[ci]? = some (Cn, T, N)) (k : Nat) (hk : k < N) (hin : ∀ w ∈ u_ws Cn T N, w ∈ Ts) (hlink : Cond.fieldLink own index (T k).1 (T k).2.1 (T k).2.2.1 ∈ Ts) {v : Value} (hv : fs[k]? = some v) (hdg : decode cc pc = .ok (.getfield index, 3))
    (kk : W p l e R s m args below meth c H locs cells slots Q (F0 m (pc + 3) ls (v :: rest))) : W p l e R s m args below meth c H locs cells slots Q (F0 m pc ls (.ref a :: rest)) := by
  obtain ⟨hx, hb, -, hown, hts, hK, -⟩ := C
  have hat := h.1.1 a (by rw [ha]; exact hk0) (by rw [h.2.1]; exact hlt)
  have e0 : bz_F G σ a = .inr (ci, fs) := by
    unfold bz_F
    rw [ha, he]
  rw [e0] at hat
  have hP : va_P G.1 vwCl [(a, .inr (ci, fs))] H := by
    intro j q hj
    match j, hj with
    | 0, hj => cases hj; exact hat
    | j + 1, hj => simp at hj
  exact va_get hx hb hts hin hown hK.1 hP 0 rfl hc k hk (hts _ hlink) (fun x h => h) hv hdg kk
theorem bz_iastU (C : bz_C p s m c args cc nL own Ts G) (h : bz_HU G s σ H locs sz) {a n : Nat} (ha : bz_k G a = (9, n)) (hlt : a < sz) {i x : Int32} (hin : in_ i n = true) {kx : Nat} (hkx : i.toNatClampNeg = kx) (hdg : decode cc pc = .ok (.iastore, 1))
    (kk : ∀ (H1 : Heap) (locs1 : List Loc), bz_HU G s (bz_wi σ a kx x) H1 locs1 sz → W p l e R s m args below meth c H1 locs1 cells slots Q (F0 m (pc + 1) ls rest)) : W p l e R s m args below meth c H locs cells slots Q (F0 m pc ls (.int x :: .int i :: .ref a :: rest)) := by
  subst hkx
  obtain ⟨hx, hb, -, hown, hts, hK, -⟩ := C
  have hat := h.1.1 a (by rw [ha]; simp) (by rw [h.2.1]; exact hlt)
  have e0 : bz_F G σ a = .inl (bz_cy G 0, n, .inl (σ.1 a)) := by
    unfold bz_F
    rw [ha]
    rfl
  rw [e0] at hat
  refine W.iast hx hb hat ((hK.1.2 0 _ rfl).1 n (fun j => .int (σ.1 a j))) (fun q => by cases q) (by show ¬ (i < 0 ∨ (arrV _ _ _).slots.size ≤ _); rw [arrV_size]; exact in_u hin) rfl rfl hdg fun H1 e z oq => ?_
  refine kk H1 _ (h.stored hK.2.2.2 (by rw [ha]; simp) hlt bz_wi_o z oq ?_)
  have e4 : bz_F G (bz_wi σ a i.toNatClampNeg x) a = .inl (bz_cy G 0, n, .inl (upd (σ.1 a) i.toNatClampNeg x)) := by
    unfold bz_F
    rw [ha, bz_wi_s]
    rfl
  rw [e4]
  show H1[a]? = some (vp_cell _ _)
  rw [e]
  rw [vp_cell_i, vp_cell_i, arrV_store]
  congr 2
  funext q
  by_cases hq : q = i.toNatClampNeg
  · subst hq
    simp [updV, upd]
  · simp [updV, upd, hq]
theorem bz_aastUm (C : bz_C p s m c args cc nL own Ts G) (h : bz_HU G s σ H locs sz) {a n r : Nat} (ha : bz_k G a = (11, n)) (hlt : a < sz) (hr : bz_k G r = (3, 0)) (hltr : r < sz) {i : Int32} (hin : in_ i n = true) {kx : Nat} (hkx : i.toNatClampNeg = kx) (hdg : decode cc pc = .ok (.aastore, 1))
    (kk : ∀ (H1 : Heap) (locs1 : List Loc), bz_HU G s (bz_wr σ a kx r) H1 locs1 sz → W p l e R s m args below meth c H1 locs1 cells slots Q (F0 m (pc + 1) ls rest)) : W p l e R s m args below meth c H locs cells slots Q (F0 m pc ls (.ref r :: .int i :: .ref a :: rest)) := by
  subst hkx
  obtain ⟨hx, hb, -, hown, hts, hK, -⟩ := C
  have hlt2 : i.toNatClampNeg < n := bz_lt (in_u hin)
  have h0 : ¬ i < 0 := fun q => (in_u hin) (Or.inl q)
  have hat := h.1.1 a (by rw [ha]; simp) (by rw [h.2.1]; exact hlt)
  have e0 : bz_F G σ a = .inl (bz_cy G 2, n, .inr (.inr (.inr (.inr (fun j => bz_ro (σ.2 a j)))))) := by
    unfold bz_F
    rw [ha]
    rfl
  rw [e0] at hat
  have hat2 := h.1.1 r (by rw [hr]; simp) (by rw [h.2.1]; exact hltr)
  have e5 : ∃ vs, bz_F G σ r = .inr (2, vs) := by
    unfold bz_F
    rw [hr]
    exact ⟨_, rfl⟩
  obtain ⟨vs, e5⟩ := e5
  rw [e5] at hat2
  obtain ⟨r', hr', cellV, g1, g2, g3, -⟩ := hat2
  have hcls := (hK.1.1 2 (RX2, TX2, 15) rfl).2
  obtain ⟨kA, comp, k1, k2, k3, -⟩ := (hK.1.2 2 _ rfl).2
  have hcomp : comp = G.1.1 2 := Option.some.inj (k3.symm.trans hcls.1)
  subst hcomp
  obtain ⟨kC, hkC, -⟩ := hcls.2
  refine W.aast hx hb hat (fun q h => by cases h) (fun h => by cases h) k1 k2 rfl hkC ⟨h0, by show _ < (arrV _ _ _).slots.size; rw [arrV_size]; exact hlt2⟩ g1 (fun q h => by rw [g3] at h; cases h) (by rw [g2]; exact hkC) (by rw [g2]; exact va_assign hcls) rfl rfl hdg fun H1 e z oq => ?_
  refine kk H1 _ (h.stored hK.2.2.2 (by rw [ha]; simp) hlt bz_wr_o z oq ?_)
  have e6 := bz_ne0 hK.2.2.2 hr (by simp)
  have e4 : bz_F G (bz_wr σ a i.toNatClampNeg r) a = .inl (bz_cy G 2, n, .inr (.inr (.inr (.inr (va_up (fun j => bz_ro (σ.2 a j)) i.toNatClampNeg (some r)))))) := by
    unfold bz_F
    rw [ha]
    have e2 : (fun q => bz_ro ((bz_wr σ a i.toNatClampNeg r).2 a q)) = va_up (fun q => bz_ro (σ.2 a q)) i.toNatClampNeg (some r) := by
      funext q
      by_cases hq : q = i.toNatClampNeg
      · simp [bz_wr, va_up, e6, hq]
      · simp [bz_wr, va_up, hq]
    show (Sum.inl (bz_cy G 2, n, .inr (.inr (.inr (.inr (fun q => bz_ro ((bz_wr σ a i.toNatClampNeg r).2 a q)))))) : va_E) = _
    rw [e2]
  rw [e4]
  show H1[a]? = some (vp_cell _ _)
  rw [e]
  rw [vp_cell_q, vp_cell_q, arrV_store]
  congr 2
  funext q
  by_cases hq : q = i.toNatClampNeg
  · subst hq
    simp [updV, va_up, va_rf]
  · simp [updV, va_up, hq]
theorem bz_aastUs (C : bz_C p s m c args cc nL own Ts G) (h : bz_HU G s σ H locs sz) {a n r : Nat} (ha : bz_k G a = (12, n)) (hlt : a < sz) (hr : bz_k G r = (4, 0)) (hltr : r < sz) {i : Int32} (hin : in_ i n = true) {kx : Nat} (hkx : i.toNatClampNeg = kx) (hdg : decode cc pc = .ok (.aastore, 1))
    (kk : ∀ (H1 : Heap) (locs1 : List Loc), bz_HU G s (bz_wr σ a kx r) H1 locs1 sz → W p l e R s m args below meth c H1 locs1 cells slots Q (F0 m (pc + 1) ls rest)) : W p l e R s m args below meth c H locs cells slots Q (F0 m pc ls (.ref r :: .int i :: .ref a :: rest)) := by
  subst hkx
  obtain ⟨hx, hb, -, hown, hts, hK, -⟩ := C
  have hlt2 : i.toNatClampNeg < n := bz_lt (in_u hin)
  have h0 : ¬ i < 0 := fun q => (in_u hin) (Or.inl q)
  have hat := h.1.1 a (by rw [ha]; simp) (by rw [h.2.1]; exact hlt)
  have e0 : bz_F G σ a = .inl (bz_cy G 3, n, .inr (.inr (.inr (.inr (fun j => bz_ro (σ.2 a j)))))) := by
    unfold bz_F
    rw [ha]
    rfl
  rw [e0] at hat
  have hat2 := h.1.1 r (by rw [hr]; simp) (by rw [h.2.1]; exact hltr)
  have e5 : ∃ vs, bz_F G σ r = .inr (3, vs) := by
    unfold bz_F
    rw [hr]
    exact ⟨_, rfl⟩
  obtain ⟨vs, e5⟩ := e5
  rw [e5] at hat2
  obtain ⟨r', hr', cellV, g1, g2, g3, -⟩ := hat2
  have hcls := (hK.1.1 3 (RX3, TX3, 8) rfl).2
  obtain ⟨kA, comp, k1, k2, k3, -⟩ := (hK.1.2 3 _ rfl).2
  have hcomp : comp = G.1.1 3 := Option.some.inj (k3.symm.trans hcls.1)
  subst hcomp
  obtain ⟨kC, hkC, -⟩ := hcls.2
  refine W.aast hx hb hat (fun q h => by cases h) (fun h => by cases h) k1 k2 rfl hkC ⟨h0, by show _ < (arrV _ _ _).slots.size; rw [arrV_size]; exact hlt2⟩ g1 (fun q h => by rw [g3] at h; cases h) (by rw [g2]; exact hkC) (by rw [g2]; exact va_assign hcls) rfl rfl hdg fun H1 e z oq => ?_
  refine kk H1 _ (h.stored hK.2.2.2 (by rw [ha]; simp) hlt bz_wr_o z oq ?_)
  have e6 := bz_ne0 hK.2.2.2 hr (by simp)
  have e4 : bz_F G (bz_wr σ a i.toNatClampNeg r) a = .inl (bz_cy G 3, n, .inr (.inr (.inr (.inr (va_up (fun j => bz_ro (σ.2 a j)) i.toNatClampNeg (some r)))))) := by
    unfold bz_F
    rw [ha]
    have e2 : (fun q => bz_ro ((bz_wr σ a i.toNatClampNeg r).2 a q)) = va_up (fun q => bz_ro (σ.2 a q)) i.toNatClampNeg (some r) := by
      funext q
      by_cases hq : q = i.toNatClampNeg
      · simp [bz_wr, va_up, e6, hq]
      · simp [bz_wr, va_up, hq]
    show (Sum.inl (bz_cy G 3, n, .inr (.inr (.inr (.inr (fun q => bz_ro ((bz_wr σ a i.toNatClampNeg r).2 a q)))))) : va_E) = _
    rw [e2]
  rw [e4]
  show H1[a]? = some (vp_cell _ _)
  rw [e]
  rw [vp_cell_q, vp_cell_q, arrV_store]
  congr 2
  funext q
  by_cases hq : q = i.toNatClampNeg
  · subst hq
    simp [updV, va_up, va_rf]
  · simp [updV, va_up, hq]
theorem bz_blindI (G : bz_G) (σ : bz_W) (sz : Nat) (As : List Value) : FrameBlind (va_Pc As (fun U => U.heap.size = sz ∧ bz_K G U ∧ bz_S G U U.heap ∧ bz_U G σ U.heap)) := by
  intro a U g mk q
  obtain ⟨e, h0, h1, h2, h3⟩ := q
  exact ⟨e, h0, bz_K.same (u := U) (U := U.calling g mk a) rfl h1, bz_S.moved (u := U) (U := U.calling g mk a) (Vm.Alike.refl U.vm) h2, h3⟩
theorem bz_callI (C : bz_C p s m c args cc nL own Ts G) (h : bz_HU G s σ H locs sz) {y : MethodName} {ws : List Cond} {fr lo b n mc ms index maxL : Nat} {As : List Value} {τ : bz_W} {bytes : ByteArray} (hM : bz_MI l y ws fr lo mc ms G σ sz (.ref b :: As) τ) (cw : CallB R s args own index y bytes maxL none ws ({ frames := fr, cells := mc, slots := ms, locals := lo }) mc ms n ∧ y.name = "<init>" ∧ (Cond.instanceMethod y).before args s = true) (hn : As.length = n) (hls : ls.size = nL) {st0 : List Value} (hst : st0 = As.reverse ++ .ref b :: rest) (hW : (rest.map fun v => v.category).sum ≤ 8) (hf : cells + mc ≤ R.cells ∧ slots + ms ≤ R.slots) (hdg : decode cc pc = .ok (.invokespecial index, 3))
    (kk : ∀ (H1 : Heap) (locs1 : List Loc), bz_HU G s τ H1 locs1 (sz + mc) → W p l e R s m args below meth c H1 locs1 (cells + mc) (slots + ms) Q (F0 m (pc + 3) ls rest)) : W p l e R s m args below meth c H locs cells slots Q (F0 m pc ls st0) := by
  have hr := va_runI (p := p) (e := e) (below := below) (meth := meth) (c := c) (H := H) (locs := locs) (cells := cells) (slots := slots) (g := F0 m pc ls st0) (rest := rest) (S := ⟨C.1, C.2.1, C.2.2.1, C.2.2.2.1, C.2.2.2.2.1⟩) hM cw ⟨bz_blindI G σ sz _, fun U hU hW => ⟨rfl, by rw [hU]; exact h.2.1, bz_K.warm hW C.2.2.2.2.2.1, by rw [hU]; exact bz_S.moved hW.alike (bz_S.kept C.2.2.2.2.2.2 h.2.2.2.1), by rw [hU]; exact h.1⟩⟩ rfl hn hls hst (by show 2 * 0 + _ ≤ 8; omega) hdg hf
  intro T hT X
  obtain ⟨v, st₀, t, T', L, h0, X', hL, e1, e2, ⟨⟨hv, hz1, hq⟩, hz, hk⟩, st⟩ := hr T hT X
  obtain rfl : v = none := by cases hv; rfl
  rw [h0] at hz hk
  have hS := h.2.2
  obtain ⟨t2, a1, b1⟩ := kk T'.heap (locs ++ L) ⟨by rw [e1]; exact hq, by rw [e1]; exact hz1, Nat.le_trans hS.1 (by rw [e1]; exact hz), fun q h1 h2 => by rw [e1, hk q (Nat.lt_of_lt_of_le h1 hS.1) h2]; exact hS.2.1 q h1 h2, fun q hq => by
      rcases List.mem_append.mp hq with h | h
      · exact hS.2.2 q h
      · exact hL q h⟩ T' rfl X'
  exact ⟨t2, st t2 a1, b1⟩
theorem bz_vretI (C : bz_C p s m c args cc nL own Ts G) {mc ms sz0 : Nat} (h : bz_HU G s σ H locs (sz0 + mc)) (hlocks : meth.locks = false) (hr : meth.sig.returnType = none) {τ : bz_W} (ht : σ = τ) (hc : cells = mc) (hs : slots = ms) (hdg : decode cc pc = .ok (.return_, 1)) : W p l e R s m args below meth c H locs cells slots (MQ below (fun _ st oc t => (oc = .returned none ∧ t.heap.size = sz0 + mc ∧ bz_U G τ t.heap) ∧ va_F (bz_A G) st t) args s mc ms (bz_A G)) (F0 m pc ls []) := by
  subst ht; subst hc; subst hs
  exact W.vret C.1 C.2.1 hr (fun t ht _ => ⟨⟨rfl, by rw [ht]; exact h.2.1, by rw [ht]; exact h.1⟩, h.2.2.F ht⟩) h.2.2.2.2 hdg hlocks
theorem bz_obj (C : bz_C p s m c args cc nL own Ts G) (hls : ls.size = nL) {a idx : Nat} (h1 : Cond.methodLink own idx objectInit ∈ Ts) (h2 : Cond.instanceMethod objectInit ∈ Ts) (h3 : Cond.code objectInit ⟨#[0xb1]⟩ 1 none ∈ Ts) (hframes : 1 ≤ R.frames) (hlocals : (rest.map fun v => v.category).sum + 12 ≤ R.locals) (hdg : decode cc pc = .ok (.invokespecial idx, 3))
    (kk : W p l e R s m args below meth c H locs cells slots Q (F0 m (pc + 3) ls rest)) : W p l e R s m args below meth c H locs cells slots Q (F0 m pc ls (.ref a :: rest)) := by
  obtain ⟨hx, hb, hml, hown, hts, -⟩ := C
  exact W.objInit hx hb hown (hts _ h1) (hts _ h2) (hts _ h3) rfl (by rw [hml]; exact hls) rfl hdg hframes (by show 2 * 0 + _ + 12 ≤ _; omega) kk
end BI
theorem bz_mkI {l : Launch} {y : MethodName} {ws ws' : List Cond} {fr lo mc ms sz maxL : Nat} {G : bz_G} {σ τ : bz_W} {As : List Value} {cc : ByteArray} {ret : Option FieldType} {own : String} (hy : plainName y.cls = true) (hw : ws = Cond.code y cc maxL ret :: ws') (hown : y.cls = own) (hyn : y.name = "<init>") (hlen : (lg_sl As).length ≤ maxL) (body : ∀ (p : Program) (e : Env) (s : State) (m : MethodId) (args : Array Value) (below : List Frame) (meth : Method) (c : Code) (ls : Array Slot), bz_C p s m c args cc maxL own ws G → meth.locks = false → meth.sig.returnType = ret → meth.name = "<init>" → bz_HU G s σ s.heap [] sz → lv_has ls maxL (lv_args 0 As) → W p l e ({ frames := fr, cells := mc, slots := ms, locals := lo } : Room) s m args below meth c s.heap [] 0 0 (MQ below (fun _ st oc t => (oc = .returned none ∧ t.heap.size = sz + mc ∧ bz_U G τ t.heap) ∧ va_F (bz_A G) st t) args s mc ms (bz_A G)) (F0 m 0 ls [])) : bz_MI l y ws fr lo mc ms G σ sz As τ := by
  refine Met.ofW (cc := cc) (maxL := maxL) (ret := ret) hy hw ?_
  intro p e s m args below meth c s₁ B hml hv
  obtain ⟨rfl, h0, h1, h2, h3⟩ := hv
  have hts := atoms_spec (ws := ws) B.pre
  have hown' : s.vm.findClass own = some m.cls := by
    rw [← hown]
    exact findClass_of_methodNamed B.named
  have hin : meth.name = "<init>" := (name_of_methodNamed B.named B.method).1.trans hyn
  have hl := lv_entry As (n := maxL) hlen
  rw [lg_entry_eq]
  exact body p e s m _ below meth c _ ⟨B.exec, B.bytes, hml, hown', hts, h1, h2⟩ B.notSynchronized B.returns hin ⟨h3, h0, va_S.rf⟩ hl
theorem bz_rs {σ : bz_W} {a k r : Nat} (hr : r ≠ 0) : bz_rv ((bz_wr σ a k r).2 a k) = .ref r := by
  show va_rf (bz_ro ((bz_wr σ a k r).2 a k)) = .ref r
  have e : (bz_wr σ a k r).2 a k = r := by simp [bz_wr]
  rw [e]
  simp [bz_ro, hr, va_rf]
theorem bz_r1 {r : Nat} (hr : r ≠ 0) : bz_rv r = .ref r := by
  show va_rf (bz_ro r) = .ref r
  simp [bz_ro, hr, va_rf]
