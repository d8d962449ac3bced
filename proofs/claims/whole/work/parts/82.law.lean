/-! THE LAW -/
theorem bz_gVL {own : String} {idx : Nat} {Cn : String} {y : MethodName} {c1 : Cond} (h1 : Cond.methodLink own idx y ∈ wsL_law) (h2 : Cond.instanceMethod y ∈ wsL_law) (h3 : Cond.selects Cn y y ∈ wsL_law) (h4 : Cond.initialized Cn ∈ wsL_law) (h5 : c1 ∈ wsL_law) : GoodIn wsL_law (wsV own idx Cn y (c1 :: wsL_law)) := by
  intro w hw
  have h : w ∈ wsL_law := by
    simp only [wsV, List.mem_append, List.mem_cons, List.not_mem_nil, or_false] at hw
    rcases hw with (rfl | rfl | rfl | rfl) | rfl | h <;> assumption
  exact ⟨h, bz_B_good w h⟩
theorem bz_g0L {c1 : Cond} (h5 : c1 ∈ wsL_law) : GoodIn wsL_law (c1 :: wsL_law) := by
  intro w hw
  have h : w ∈ wsL_law := by
    rcases List.mem_cons.mp hw with rfl | h <;> assumption
  exact ⟨h, bz_B_good w h⟩
theorem bz_out26 {x : Int32} (h0 : ¬ x = 0) (h1 : ¬ x = 1) (h2 : ¬ x = 2) (h3 : ¬ x = 3) (h4 : ¬ x = 4) (h5 : ¬ x = 5) (h6 : ¬ x = 6) (h7 : ¬ x = 7) (h8 : ¬ x = 8) (h9 : ¬ x = 9) (h10 : ¬ x = 10) (h11 : ¬ x = 11) (h12 : ¬ x = 12) (h13 : ¬ x = 13) (h14 : ¬ x = 14) (h15 : ¬ x = 15) (h16 : ¬ x = 16) (h17 : ¬ x = 17) (h18 : ¬ x = 18) (h19 : ¬ x = 19) (h20 : ¬ x = 20) (h21 : ¬ x = 21) (h22 : ¬ x = 22) (h23 : ¬ x = 23) (h24 : ¬ x = 24) (h25 : ¬ x = 25) : x.toInt < 0 ∨ 25 < x.toInt := by
  have := bz_out18 h0 h1 h2 h3 h4 h5 h6 h7 h8 h9 h10 h11 h12 h13 h14 h15 h16 h17
  have := bz_ne 18 18 rfl h18
  have := bz_ne 19 19 rfl h19
  have := bz_ne 20 20 rfl h20
  have := bz_ne 21 21 rfl h21
  have := bz_ne 22 22 rfl h22
  have := bz_ne 23 23 rfl h23
  have := bz_ne 24 24 rfl h24
  have := bz_ne 25 25 rfl h25
  omega
section LW
variable {p : Program} {l : Launch} {e : Env} {R : Room} {s : State} {m : MethodId} {args : Array Value} {below : List Frame} {meth : Method} {c : Code} {H : Heap} {cells slots : Nat} {Q : State → Prop}
variable {cc : ByteArray} {nL pc : Nat} {ls : Array Slot} {rest : List Value} {own : String} {Ts : List Cond} {G : bz_G} {σ : bz_W} {sz : Nat}
theorem lw_call (C : bz_C p s m c args cc nL own Ts G) (hA : ∀ q, bz_A G q → s.heap.size ≤ q) (h : bz_H G s σ H []) {y : MethodName} {ws : List Cond} {fr lo b ci n index maxL : Nat} {As : List Value} {o : Option Value} {τ : bz_W} {q : vw_C} {bytes : ByteArray} {ret : Option FieldType} (hM : bz_M l y ws fr lo G σ (.ref b :: As) o τ) (hb : bz_k G b = (ci + 1, 0)) (hci : ci < 8) (hcl : vwCl[ci]? = some q) (cw : CallW R s args own q.1 index y bytes maxL ret ws ({ frames := fr, cells := 0, slots := 0, locals := lo }) 0 0 n) (hn : As.length = n) (hls : ls.size = nL) {st0 st1 : List Value} (hst : st0 = As.reverse ++ .ref b :: rest) (hW : (rest.map fun v => v.category).sum ≤ 8) (hf : cells ≤ R.cells ∧ slots ≤ R.slots) (hdg : decode cc pc = .ok (.invokevirtual index, 3)) (h1 : o.toList ++ rest = st1)
    (kk : ∀ H1 : Heap, bz_H G s τ H1 [] → H.size ≤ H1.size → (∀ q, q < H.size → ¬ bz_A G q → H1[q]? = H[q]?) → W p l e R s m args below meth c H1 [] cells slots Q (F0 m (pc + 3) ls st1)) : W p l e R s m args below meth c H [] cells slots Q (F0 m pc ls st0) := by
  have hr := va_runV (p := p) (e := e) (below := below) (meth := meth) (c := c) (H := H) (locs := []) (cells := cells) (slots := slots) (g := F0 m pc ls st0) (rest := rest) (S := ⟨C.1, C.2.1, C.2.2.1, C.2.2.2.1, C.2.2.2.2.1⟩) hM cw ⟨bz_blind G σ _, bz_recv C h hcl hb hci, bz_pre C h _⟩ rfl hn hls hst (by show 2 * 0 + _ ≤ 8; omega) hdg hf
  intro T hT X
  obtain ⟨v, st₀, t, T', L, h0, X', hL, e1, e2, ⟨⟨hv, hq⟩, hz, hk⟩, st⟩ := hr T hT X
  obtain rfl : v = o := by cases hv; rfl
  rw [h0] at hz hk
  have hS := h.2.2
  subst h1
  have hS1 : va_S (bz_A G) s.heap T'.heap [] := ⟨Nat.le_trans hS.1 (by rw [e1]; exact hz), fun q h1 h2 => by rw [e1, hk q (Nat.lt_of_lt_of_le h1 hS.1) h2]; exact hS.2.1 q h1 h2, fun _ h => by cases h⟩
  obtain ⟨t2, a1, b1⟩ := va_forget (locs := [] ++ L) (fun q hq => hA _ (hL q (by simpa using hq))) (kk T'.heap ⟨by unfold bz_V; rw [e1]; exact hq.1, hq.2, hS1⟩ (by rw [e1]; exact hz) (fun q h1 h2 => by rw [e1]; exact hk q h1 h2)) T' rfl X'
  exact ⟨t2, st t2 a1, b1⟩
theorem lw_new (C : bz_C p s m c args cc nL own Ts G) (hA : ∀ q, bz_A G q → s.heap.size ≤ q) (h : bz_HU G s σ H [] sz) {ci N index : Nat} (hk : bz_k G sz = (ci + 1, 0)) {Cn : String} {T : u_T} (hc : vwCl[ci]? = some (Cn, T, N)) (hin : ∀ w ∈ u_ws Cn T N, w ∈ Ts) (ty : Nat → FieldType) (hty : ∀ k, k < N → parseFieldDescriptor (T k).2.2.1 = some (ty k)) (hcl : Cond.classLink own index Cn ∈ Ts) (hinst : Cond.instantiable Cn N ∈ Ts) (hini : Cond.initialized Cn ∈ Ts) {fs : List Value} (he : bz_cE (bz_cy G) (ci + 1, 0) (fun _ => 0) (fun _ => 0) = .inr (ci, fs)) (hfs : ∀ j, j < N → defaultValue (ty j) = vp_V fs j) (hcells : cells + 1 ≤ R.cells) (hslots : slots + N ≤ R.slots) (hdg : decode cc pc = .ok (.new index, 3))
    (kk : ∀ H1 : Heap, bz_HU G s σ H1 [] (sz + 1) → (∀ q, q < sz → H1[q]? = H[q]?) → W p l e R s m args below meth c H1 [] (cells + 1) (slots + N) Q (F0 m (pc + 3) ls (.ref sz :: rest))) : W p l e R s m args below meth c H [] cells slots Q (F0 m pc ls rest) := by
  obtain ⟨hx, hb, -, hown, hts, hK, -⟩ := C
  have hKn := hK.1.1 ci _ hc
  refine W.newcK hx hb hown (hts _ hcl) (hts _ hinst) (hts _ hini) rfl hdg hcells hslots hKn.2.1 h.2.1 fun H1 kC hkC e1 z1 o1 => kk H1 (h.grown z1 o1 fun _ => ?_) o1
  rw [hk, he]
  exact ⟨_, hc, (u_born ty hts hin hKn hkC e1 hty).to hfs⟩
theorem lw_callI (C : bz_C p s m c args cc nL own Ts G) (hA : ∀ q, bz_A G q → s.heap.size ≤ q) (h : bz_HU G s σ H [] sz) {y : MethodName} {ws : List Cond} {fr lo b n mc ms index maxL : Nat} {As : List Value} {τ : bz_W} {bytes : ByteArray} (hM : bz_MI l y ws fr lo mc ms G σ sz (.ref b :: As) τ) (cw : CallB R s args own index y bytes maxL none ws ({ frames := fr, cells := mc, slots := ms, locals := lo }) mc ms n ∧ y.name = "<init>" ∧ (Cond.instanceMethod y).before args s = true) (hn : As.length = n) (hls : ls.size = nL) {st0 : List Value} (hst : st0 = As.reverse ++ .ref b :: rest) (hW : (rest.map fun v => v.category).sum ≤ 8) (hf : cells + mc ≤ R.cells ∧ slots + ms ≤ R.slots) (hdg : decode cc pc = .ok (.invokespecial index, 3))
    (kk : ∀ H1 : Heap, bz_HU G s τ H1 [] (sz + mc) → (∀ q, q < H.size → ¬ bz_A G q → H1[q]? = H[q]?) → W p l e R s m args below meth c H1 [] (cells + mc) (slots + ms) Q (F0 m (pc + 3) ls rest)) : W p l e R s m args below meth c H [] cells slots Q (F0 m pc ls st0) := by
  have hr := va_runI (p := p) (e := e) (below := below) (meth := meth) (c := c) (H := H) (locs := []) (cells := cells) (slots := slots) (g := F0 m pc ls st0) (rest := rest) (S := ⟨C.1, C.2.1, C.2.2.1, C.2.2.2.1, C.2.2.2.2.1⟩) hM cw ⟨bz_blindI G σ sz _, fun U hU hW => ⟨rfl, by rw [hU]; exact h.2.1, bz_K.warm hW C.2.2.2.2.2.1, by rw [hU]; exact bz_S.moved hW.alike (bz_S.kept C.2.2.2.2.2.2 h.2.2.2.1), by rw [hU]; exact h.1⟩⟩ rfl hn hls hst (by show 2 * 0 + _ ≤ 8; omega) hdg hf
  intro T hT X
  obtain ⟨v, st₀, t, T', L, h0, X', hL, e1, e2, ⟨⟨hv, hz1, hq⟩, hz, hk⟩, st⟩ := hr T hT X
  obtain rfl : v = none := by cases hv; rfl
  rw [h0] at hz hk
  have hS := h.2.2
  have hS1 : va_S (bz_A G) s.heap T'.heap [] := ⟨Nat.le_trans hS.1 (by rw [e1]; exact hz), fun q h1 h2 => by rw [e1, hk q (Nat.lt_of_lt_of_le h1 hS.1) h2]; exact hS.2.1 q h1 h2, fun _ h => by cases h⟩
  obtain ⟨t2, a1, b1⟩ := va_forget (locs := [] ++ L) (fun q hq => hA _ (hL q (by simpa using hq))) (kk T'.heap ⟨by rw [e1]; exact hq, by rw [e1]; exact hz1, hS1⟩ (fun q h1 h2 => by rw [e1]; exact hk q h1 h2)) T' rfl X'
  exact ⟨t2, st t2 a1, b1⟩
end LW
-- the two worlds
def Ac_ (z q : Nat) : Prop := z ≤ q ∧ q < z + 173
def Am_ (z q : Nat) : Prop := z + 173 ≤ q
def Ls_ (z n : Nat) : List Nat := (List.range n).map (fun i => z + i)
theorem Ls_at {z n i : Nat} {f : Nat → va_E} {q : Nat × va_E} (h : (va_pl (Ls_ z n) f)[i]? = some q) : i < n ∧ q = (z + i, f (z + i)) := by
  unfold va_pl Ls_ at h
  rw [List.getElem?_map, List.getElem?_map] at h
  by_cases hi : i < n
  · rw [List.getElem?_range hi] at h
    simp at h
    exact ⟨hi, h.symm⟩
  · rw [List.getElem?_eq_none (by simp; omega)] at h
    simp at h
theorem Ls_D (z n : Nat) (A : Nat → Prop) (hA : ∀ i, i < n → A (z + i)) (f : Nat → va_E) : va_D A (va_pl (Ls_ z n) f) := by
  refine ⟨fun i j p q hi hj e => ?_, fun k q hk => ?_⟩
  · have h1 := (Ls_at hi).2
    have h2 := (Ls_at hj).2
    rw [h1, h2] at e
    have e : z + i = z + j := e
    omega
  · rw [(Ls_at hk).2]
    exact hA k (Ls_at hk).1
theorem Ls_m {z n a : Nat} (h : z ≤ a ∧ a < z + n) : a ∈ Ls_ z n := List.mem_map.mpr ⟨a - z, List.mem_range.mpr (by omega), by omega⟩
theorem kB_ne : ∀ j, j < 173 → (kB j).1 ≠ 0 := by decide +kernel
abbrev Gc_ (D : va_G) (cy : Nat → ClassId) (aK aV : Nat → Nat) (z : Nat) : bz_G := (D, cy, kc_ z, Ls_ z 173, Ac_ z, aK, aV)
abbrev Gm_ (D : va_G) (cy : Nat → ClassId) (aK aV : Nat → Nat) (z : Nat) : bz_G := (D, cy, km_ z, Ls_ (z + 173) 6, Am_ z, aK, aV)
theorem Gc_Z (D : va_G) (cy : Nat → ClassId) (aK aV : Nat → Nat) {z : Nat} (hz : 0 < z) : bz_Z (Gc_ D cy aK aV z) := by
  refine ⟨Ls_D z 173 _ (fun i hi => ⟨by omega, by omega⟩), fun a ha => ?_, ?_⟩
  · apply Ls_m
    by_cases h : z ≤ a ∧ a < z + 173
    · exact h
    · exact absurd (show (kc_ z a).1 = 0 by simp [kc_, h]) ha
  · show (kc_ z 0).1 = 0
    have h0 : ¬ (z ≤ 0 ∧ 0 < z + 173) := by omega
    simp only [kc_, if_neg h0]
theorem km_in {z a : Nat} (h : (km_ z a).1 ≠ 0) : z + 173 ≤ a ∧ a < z + 179 := by
  unfold km_ at h
  repeat' split at h
  all_goals first | omega | exact absurd rfl h
theorem Gm_Z (D : va_G) (cy : Nat → ClassId) (aK aV : Nat → Nat) {z : Nat} (hz : 0 < z) : bz_Z (Gm_ D cy aK aV z) := by
  refine ⟨Ls_D (z + 173) 6 _ (fun i hi => by show z + 173 ≤ z + 173 + i; omega), fun a ha => ?_, ?_⟩
  · apply Ls_m
    have := km_in ha
    omega
  · show (km_ z 0).1 = 0
    simp [km_]
theorem bz_V.of {G : bz_G} {σ : bz_W} {H : Heap} {z n : Nat} (hL : bz_L G = Ls_ z n) (h : bz_U G σ H) (hk : ∀ i, i < n → (bz_k G (z + i)).1 ≠ 0) (hs : z + n ≤ H.size) : bz_V G σ H := by
  intro k q hq
  rw [hL] at hq
  obtain ⟨h1, h2⟩ := Ls_at hq
  rw [h2]
  exact h.1 (z + k) (hk k h1) (by omega)
theorem bz_V.hold {G : bz_G} {σ : bz_W} {H H1 : Heap} {z n : Nat} (hL : bz_L G = Ls_ z n) (h : bz_V G σ H) (hq : ∀ i, i < n → z + i < H.size → H1[z + i]? = H[z + i]?) : bz_V G σ H1 := by
  refine va_P.kept h fun k q hk => ?_
  have hl := (h k q hk).lt
  rw [hL] at hk
  obtain ⟨h1, h2⟩ := Ls_at hk
  rw [h2] at hl ⊢
  exact hq k h1 hl
theorem lw_lt {L i : Nat} (hL : L < 2 ^ 30) (hi : i < 2 ^ 30) : nI L - 5 < nI i ↔ L < i + 5 := by
  have e1 : (nI L - nI 5).toInt = (L : Int) - (5 : Nat) := pk_sub_toInt hL (by omega)
  have e2 := nI_toInt (n := i) (by omega)
  rw [Int32.lt_iff_toInt_lt]
  show (nI L - nI 5).toInt < _ ↔ _
  rw [e1, e2]
  omega
set_option maxHeartbeats 8000000 in
set_option maxRecDepth 100000 in
theorem law_loop {p : Program} {l : Launch} {e : Env} {s : State} {m : MethodId} {below : List Frame} {meth : Method} {c : Code} {b L : Nat} {xs : Nat → Int32} (hL : L ≤ 2560) (C0 : lw_At p s m meth c b L xs) {D : va_G} {cy : Nat → ClassId} {aK aV : Nat → Nat} {z : Nat} (hz : z = s.heap.size) (Cc : bz_C p s m c #[Value.ref b] cL_law 4 RL wsL_law (Gc_ D cy aK aV z)) (Cm : bz_C p s m c #[Value.ref b] cL_law 4 RL wsL_law (Gm_ D cy aK aV z)) : ∀ n k : Nat, n + k = 513 → ∀ (σ τ : bz_W) (H : Heap) (ls : Array Slot), bz_Rel z k σ τ → bz_H (Gc_ D cy aK aV z) s σ H [] → bz_H (Gm_ D cy aK aV z) s τ H [] → 5 * k ≤ L → lv_has ls 4 [(0, .ref b), (1, .ref z), (2, .ref (z + 173)), (3, .int (nI (5 * k)))] → W p l e room_1 s m #[Value.ref b] below meth c H [] 179 3402 (lw_Z below #[Value.ref b] s) (F0 m 18 ls []) := by
  have hx := Cc.1
  have hb := Cc.2.1
  have hts := Cc.2.2.2.2.1
  obtain ⟨-, -, hr, -, -, -, hX, hbl, hlocks, -⟩ := id C0
  have hAc : ∀ q, Ac_ z q → s.heap.size ≤ q := fun q h => by rw [← hz]; exact h.1
  have hAm : ∀ q, Am_ z q → s.heap.size ≤ q := fun q h => by rw [← hz]; exact Nat.le_trans (Nat.le_add_right z 173) h
  have kz : kc_ z z = (7, 0) := by simp [kc_]; rfl
  have kmz : km_ z (z + 173) = (8, 0) := by simp [km_]
  have hbA : ¬ Ac_ z b := fun h => by have := hAc b h; omega
  intro n
  induction n with
  | zero =>
    intro k hk σ τ H ls hrel hc hm h5 hl
    omega
  | succ n ih =>
    intro k hk σ τ H ls hrel hc hm h5 hl
    refine lv_iload_n hx hb dL_law_18 rfl (lv_at hl 3 rfl) ?_
    refine lv_aload_n hx hb dL_law_19 rfl (lv_at hl 0 rfl) ?_
    refine va_slen hx hb hX hbl hbA hc.2.2 dL_law_20 ?_
    refine lv_iconst (v := 5) hx hb dL_law_21 (by decide) ?_
    refine lv_isub hx hb dL_law_22 ?_
    refine lv_icmp_gt (tgt := 814) hx hb dL_law_23 (by decide) (fun cL => ?_) (fun cL => ?_)
    · refine lv_iconst (v := 1) hx hb dL_law_814 (by decide) ?_
      refine W.widen (k := 600000) (n := 7302250) (Nat.le_of_ble_eq_true rfl) (Nat.le_of_ble_eq_true rfl) ?_
      exact lw_ret hx hb hr hlocks dL_law_815
    · have h6 : 5 * k + 5 ≤ L := by
        have := (not_congr (lw_lt (L := L) (i := 5 * k) (by omega) (by omega))).mp cL
        omega
      have hk5 : k < 512 := by omega
      have go : ∀ (σ1 τ1 : bz_W) (H : Heap), bz_Rel z (k + 1) σ1 τ1 → bz_H (Gc_ D cy aK aV z) s σ1 H [] → bz_H (Gm_ D cy aK aV z) s τ1 H [] → W p l e room_1 s m #[Value.ref b] below meth c H [] 179 3402 (lw_Z below #[Value.ref b] s) (F0 m 808 ls []) := by
        intro σ1 τ1 H hrel hc hm
        obtain ⟨x1, ex1⟩ : ∃ y : Int32, y = nI (5 * k) + 5 := ⟨_, rfl⟩
        refine lv_iinc (v := x1) (lv' := [(3, .int x1), (0, .ref b), (1, .ref z), (2, .ref (z + 173))]) hx hb dL_law_808 hl (k := 3) rfl (by rw [ex1]; rfl) (by decide) rfl (fun ls hl => ?_)
        refine lv_goto (tgt := 18) hx hb dL_law_811 (by decide) ?_
        have e5 : x1 = nI (5 * (k + 1)) := by
          rw [ex1]
          show nI (5 * k) + nI 5 = _
          rw [nI_add]
          congr 1
        rw [e5] at hl
        exact ih (k + 1) (by omega) σ1 τ1 H ls hrel hc hm (by omega) (lv_sub hl [1, 2, 3, 0] rfl)
      have ix : ∀ j : Nat, j < 5 → vp_in (nI (5 * k) + nI j) L := fun j hj => by rw [nI_add]; exact vp_in_nI (by omega) (by omega)
      have ix0 : vp_in (nI (5 * k)) L := vp_in_nI (by omega) (by omega)
      have ix1 : vp_in (nI (5 * k) + 1) L := ix 1 (by omega)
      have ix2 : vp_in (nI (5 * k) + 2) L := ix 2 (by omega)
      have ix3 : vp_in (nI (5 * k) + 3) L := ix 3 (by omega)
      have ix4 : vp_in (nI (5 * k) + 4) L := ix 4 (by omega)
      have holdM : ∀ (τ : bz_W) (H H1 : Heap), bz_H (Gm_ D cy aK aV z) s τ H [] → H.size ≤ H1.size → (∀ q, q < H.size → ¬ Ac_ z q → H1[q]? = H[q]?) → bz_H (Gm_ D cy aK aV z) s τ H1 [] := fun τ H H1 h h1 h2 => ⟨bz_V.hold (z := z + 173) (n := 6) rfl h.1 (fun i hi hl => h2 _ hl (fun q => by have := q.2; omega)), h.2.1, Nat.le_trans h.2.2.1 h1, fun q g1 g2 => (h2 q (Nat.lt_of_lt_of_le g1 h.2.2.1) (fun q2 => by have := hAc q q2; omega)).trans (h.2.2.2.1 q g1 g2), fun _ h => by cases h⟩
      have holdC : ∀ (σ : bz_W) (H H1 : Heap), bz_H (Gc_ D cy aK aV z) s σ H [] → H.size ≤ H1.size → (∀ q, q < H.size → ¬ Am_ z q → H1[q]? = H[q]?) → bz_H (Gc_ D cy aK aV z) s σ H1 [] := fun σ H H1 h h1 h2 => ⟨bz_V.hold (z := z) (n := 173) rfl h.1 (fun i hi hl => h2 _ hl (fun q => by have q : z + 173 ≤ z + i := q; omega)), h.2.1, Nat.le_trans h.2.2.1 h1, fun q g1 g2 => (h2 q (Nat.lt_of_lt_of_le g1 h.2.2.1) (fun q2 => by have := hAm q q2; omega)).trans (h.2.2.2.1 q g1 g2), fun _ h => by cases h⟩
      refine lv_aload_n hx hb dL_law_26 rfl (lv_at hl 0 rfl) ?_
      refine lv_iload_n hx hb dL_law_27 rfl (lv_at hl 3 rfl) ?_
      refine va_sld hx hb hX hbl hbA hc.2.2 ix0 dL_law_28 ?_
      refine lv_bipush (v := 31) hx hb dL_law_29 (by decide) ?_
      refine lv_iand hx hb dL_law_31 ?_
      refine lv_topi (fun op eop => ?_)
      by_cases c0 : op = 0
      · refine lv_tableIn (tgt := 152) hx hb dL_law_32 (by rw [c0]; decide) (by rw [c0]; decide) (by rw [c0]; rfl) (by decide) ?_
        obtain ⟨v, σ1, τ1, q1, q2, hR⟩ := sm_addMotor hrel hk5 (xs (nI (5 * k) + 1).toNatClampNeg) (xs (nI (5 * k) + 2).toNatClampNeg) (xs (nI (5 * k) + 3).toNatClampNeg) (xs (nI (5 * k) + 4).toNatClampNeg)
        refine lv_aload_n hx hb dL_law_152 rfl (lv_at hl 1 rfl) ?_
        refine lv_aload_n hx hb dL_law_153 rfl (lv_at hl 0 rfl) ?_
        refine lv_iload_n hx hb dL_law_154 rfl (lv_at hl 3 rfl) ?_
        refine lv_iconst (v := 1) hx hb dL_law_155 (by decide) ?_
        refine lv_iadd hx hb dL_law_156 ?_
        refine va_sld hx hb hX hbl hbA hc.2.2 ix1 dL_law_157 ?_
        refine lv_aload_n hx hb dL_law_158 rfl (lv_at hl 0 rfl) ?_
        refine lv_iload_n hx hb dL_law_159 rfl (lv_at hl 3 rfl) ?_
        refine lv_iconst (v := 2) hx hb dL_law_160 (by decide) ?_
        refine lv_iadd hx hb dL_law_161 ?_
        refine va_sld hx hb hX hbl hbA hc.2.2 ix2 dL_law_162 ?_
        refine lv_aload_n hx hb dL_law_163 rfl (lv_at hl 0 rfl) ?_
        refine lv_iload_n hx hb dL_law_164 rfl (lv_at hl 3 rfl) ?_
        refine lv_iconst (v := 3) hx hb dL_law_165 (by decide) ?_
        refine lv_iadd hx hb dL_law_166 ?_
        refine va_sld hx hb hX hbl hbA hc.2.2 ix3 dL_law_167 ?_
        refine lv_aload_n hx hb dL_law_168 rfl (lv_at hl 0 rfl) ?_
        refine lv_iload_n hx hb dL_law_169 rfl (lv_at hl 3 rfl) ?_
        refine lv_iconst (v := 4) hx hb dL_law_170 (by decide) ?_
        refine lv_iadd hx hb dL_law_171 ?_
        refine va_sld hx hb hX hbl hbA hc.2.2 ix4 dL_law_172 ?_
        refine lw_call Cc hAc (rest := []) (st1 := [.int v]) hc (As := [.int (xs (nI (5 * k) + 1).toNatClampNeg), .int (xs (nI (5 * k) + 2).toNatClampNeg), .int (xs (nI (5 * k) + 3).toNatClampNeg), .int (xs (nI (5 * k) + 4).toNatClampNeg)]) (o := some (.int v)) (τ := σ1) (c_X6_addMotor (l := l) kz (res := (v, σ1)) q1) kz (by decide) (ci := 6) rfl (cwV 4 hts (bz_gVL wd_4_18 wd_4_19 wd_4_20 wd_1_2 wd_4_21) rfl rfl rfl (by decide +kernel) ⟨Nat.le_of_ble_eq_true rfl, Nat.le_of_ble_eq_true rfl⟩) rfl hl.1 rfl (Nat.le_of_ble_eq_true rfl) ⟨Nat.le_of_ble_eq_true rfl, Nat.le_of_ble_eq_true rfl⟩ dL_law_173 rfl (fun H hN hz1 hq => ?_)
        have hc := hN
        have hm := holdM τ _ _ hm hz1 hq
        refine lv_aload_n hx hb dL_law_176 rfl (lv_at hl 2 rfl) ?_
        refine lv_aload_n hx hb dL_law_177 rfl (lv_at hl 0 rfl) ?_
        refine lv_iload_n hx hb dL_law_178 rfl (lv_at hl 3 rfl) ?_
        refine lv_iconst (v := 1) hx hb dL_law_179 (by decide) ?_
        refine lv_iadd hx hb dL_law_180 ?_
        refine va_sld hx hb hX hbl hbA hc.2.2 ix1 dL_law_181 ?_
        refine lv_aload_n hx hb dL_law_182 rfl (lv_at hl 0 rfl) ?_
        refine lv_iload_n hx hb dL_law_183 rfl (lv_at hl 3 rfl) ?_
        refine lv_iconst (v := 2) hx hb dL_law_184 (by decide) ?_
        refine lv_iadd hx hb dL_law_185 ?_
        refine va_sld hx hb hX hbl hbA hc.2.2 ix2 dL_law_186 ?_
        refine lv_aload_n hx hb dL_law_187 rfl (lv_at hl 0 rfl) ?_
        refine lv_iload_n hx hb dL_law_188 rfl (lv_at hl 3 rfl) ?_
        refine lv_iconst (v := 3) hx hb dL_law_189 (by decide) ?_
        refine lv_iadd hx hb dL_law_190 ?_
        refine va_sld hx hb hX hbl hbA hc.2.2 ix3 dL_law_191 ?_
        refine lv_aload_n hx hb dL_law_192 rfl (lv_at hl 0 rfl) ?_
        refine lv_iload_n hx hb dL_law_193 rfl (lv_at hl 3 rfl) ?_
        refine lv_iconst (v := 4) hx hb dL_law_194 (by decide) ?_
        refine lv_iadd hx hb dL_law_195 ?_
        refine va_sld hx hb hX hbl hbA hc.2.2 ix4 dL_law_196 ?_
        refine lw_call Cm hAm (rest := [.int v]) (st1 := [.int v, .int v]) hm (As := [.int (xs (nI (5 * k) + 1).toNatClampNeg), .int (xs (nI (5 * k) + 2).toNatClampNeg), .int (xs (nI (5 * k) + 3).toNatClampNeg), .int (xs (nI (5 * k) + 4).toNatClampNeg)]) (o := some (.int v)) (τ := τ1) (c_X7_addMotor (l := l) kmz (res := (v, τ1)) q2) kmz (by decide) (ci := 7) rfl (cwV 4 hts (bz_gVL wd_8_0 wd_8_1 wd_8_2 wd_1_5 wd_8_3) rfl rfl rfl (by decide +kernel) ⟨Nat.le_of_ble_eq_true rfl, Nat.le_of_ble_eq_true rfl⟩) rfl hl.1 rfl (Nat.le_of_ble_eq_true rfl) ⟨Nat.le_of_ble_eq_true rfl, Nat.le_of_ble_eq_true rfl⟩ dL_law_197 rfl (fun H hN hz1 hq => ?_)
        have hm := hN
        have hc := holdC σ1 _ _ hc hz1 hq
        refine lv_icmp_eq (tgt := 808) hx hb dL_law_200 (by decide) (fun _ => ?_) (fun c => absurd rfl c)
        exact go σ1 τ1 _ hR hc hm
      by_cases c1 : op = 1
      · refine lv_tableIn (tgt := 205) hx hb dL_law_32 (by rw [c1]; decide) (by rw [c1]; decide) (by rw [c1]; rfl) (by decide) ?_
        obtain ⟨v, σ1, τ1, q1, q2, hR⟩ := sm_setNeed hrel hk5 (xs (nI (5 * k) + 1).toNatClampNeg) (xs (nI (5 * k) + 2).toNatClampNeg)
        refine lv_aload_n hx hb dL_law_205 rfl (lv_at hl 1 rfl) ?_
        refine lv_aload_n hx hb dL_law_206 rfl (lv_at hl 0 rfl) ?_
        refine lv_iload_n hx hb dL_law_207 rfl (lv_at hl 3 rfl) ?_
        refine lv_iconst (v := 1) hx hb dL_law_208 (by decide) ?_
        refine lv_iadd hx hb dL_law_209 ?_
        refine va_sld hx hb hX hbl hbA hc.2.2 ix1 dL_law_210 ?_
        refine lv_aload_n hx hb dL_law_211 rfl (lv_at hl 0 rfl) ?_
        refine lv_iload_n hx hb dL_law_212 rfl (lv_at hl 3 rfl) ?_
        refine lv_iconst (v := 2) hx hb dL_law_213 (by decide) ?_
        refine lv_iadd hx hb dL_law_214 ?_
        refine va_sld hx hb hX hbl hbA hc.2.2 ix2 dL_law_215 ?_
        refine lw_call Cc hAc (rest := []) (st1 := [.int v]) hc (As := [.int (xs (nI (5 * k) + 1).toNatClampNeg), .int (xs (nI (5 * k) + 2).toNatClampNeg)]) (o := some (.int v)) (τ := σ1) (c_X6_setNeed (l := l) kz (res := (v, σ1)) q1) kz (by decide) (ci := 6) rfl (cwV 2 hts (bz_gVL wd_8_22 wd_8_23 wd_9_0 wd_1_2 wd_9_1) rfl rfl rfl (by decide +kernel) ⟨Nat.le_of_ble_eq_true rfl, Nat.le_of_ble_eq_true rfl⟩) rfl hl.1 rfl (Nat.le_of_ble_eq_true rfl) ⟨Nat.le_of_ble_eq_true rfl, Nat.le_of_ble_eq_true rfl⟩ dL_law_216 rfl (fun H hN hz1 hq => ?_)
        have hc := hN
        have hm := holdM τ _ _ hm hz1 hq
        refine lv_aload_n hx hb dL_law_219 rfl (lv_at hl 2 rfl) ?_
        refine lv_aload_n hx hb dL_law_220 rfl (lv_at hl 0 rfl) ?_
        refine lv_iload_n hx hb dL_law_221 rfl (lv_at hl 3 rfl) ?_
        refine lv_iconst (v := 1) hx hb dL_law_222 (by decide) ?_
        refine lv_iadd hx hb dL_law_223 ?_
        refine va_sld hx hb hX hbl hbA hc.2.2 ix1 dL_law_224 ?_
        refine lv_aload_n hx hb dL_law_225 rfl (lv_at hl 0 rfl) ?_
        refine lv_iload_n hx hb dL_law_226 rfl (lv_at hl 3 rfl) ?_
        refine lv_iconst (v := 2) hx hb dL_law_227 (by decide) ?_
        refine lv_iadd hx hb dL_law_228 ?_
        refine va_sld hx hb hX hbl hbA hc.2.2 ix2 dL_law_229 ?_
        refine lw_call Cm hAm (rest := [.int v]) (st1 := [.int v, .int v]) hm (As := [.int (xs (nI (5 * k) + 1).toNatClampNeg), .int (xs (nI (5 * k) + 2).toNatClampNeg)]) (o := some (.int v)) (τ := τ1) (c_X7_setNeed (l := l) kmz (res := (v, τ1)) q2) kmz (by decide) (ci := 7) rfl (cwV 2 hts (bz_gVL wd_9_7 wd_9_8 wd_9_9 wd_1_5 wd_9_10) rfl rfl rfl (by decide +kernel) ⟨Nat.le_of_ble_eq_true rfl, Nat.le_of_ble_eq_true rfl⟩) rfl hl.1 rfl (Nat.le_of_ble_eq_true rfl) ⟨Nat.le_of_ble_eq_true rfl, Nat.le_of_ble_eq_true rfl⟩ dL_law_230 rfl (fun H hN hz1 hq => ?_)
        have hm := hN
        have hc := holdC σ1 _ _ hc hz1 hq
        refine lv_icmp_eq (tgt := 808) hx hb dL_law_233 (by decide) (fun _ => ?_) (fun c => absurd rfl c)
        exact go σ1 τ1 _ hR hc hm
      by_cases c2 : op = 2
      · refine lv_tableIn (tgt := 238) hx hb dL_law_32 (by rw [c2]; decide) (by rw [c2]; decide) (by rw [c2]; rfl) (by decide) ?_
        obtain ⟨v, σ1, τ1, q1, q2, hR⟩ := sm_setLimit hrel hk5 (xs (nI (5 * k) + 1).toNatClampNeg)
        refine lv_aload_n hx hb dL_law_238 rfl (lv_at hl 1 rfl) ?_
        refine lv_aload_n hx hb dL_law_239 rfl (lv_at hl 0 rfl) ?_
        refine lv_iload_n hx hb dL_law_240 rfl (lv_at hl 3 rfl) ?_
        refine lv_iconst (v := 1) hx hb dL_law_241 (by decide) ?_
        refine lv_iadd hx hb dL_law_242 ?_
        refine va_sld hx hb hX hbl hbA hc.2.2 ix1 dL_law_243 ?_
        refine lw_call Cc hAc (rest := []) (st1 := [.int v]) hc (As := [.int (xs (nI (5 * k) + 1).toNatClampNeg)]) (o := some (.int v)) (τ := σ1) (c_X6_setLimit (l := l) kz (res := (v, σ1)) q1) kz (by decide) (ci := 6) rfl (cwV 1 hts (bz_gVL wd_9_19 wd_9_20 wd_9_21 wd_1_2 wd_9_22) rfl rfl rfl (by decide +kernel) ⟨Nat.le_of_ble_eq_true rfl, Nat.le_of_ble_eq_true rfl⟩) rfl hl.1 rfl (Nat.le_of_ble_eq_true rfl) ⟨Nat.le_of_ble_eq_true rfl, Nat.le_of_ble_eq_true rfl⟩ dL_law_244 rfl (fun H hN hz1 hq => ?_)
        have hc := hN
        have hm := holdM τ _ _ hm hz1 hq
        refine lv_aload_n hx hb dL_law_247 rfl (lv_at hl 2 rfl) ?_
        refine lv_aload_n hx hb dL_law_248 rfl (lv_at hl 0 rfl) ?_
        refine lv_iload_n hx hb dL_law_249 rfl (lv_at hl 3 rfl) ?_
        refine lv_iconst (v := 1) hx hb dL_law_250 (by decide) ?_
        refine lv_iadd hx hb dL_law_251 ?_
        refine va_sld hx hb hX hbl hbA hc.2.2 ix1 dL_law_252 ?_
        refine lw_call Cm hAm (rest := [.int v]) (st1 := [.int v, .int v]) hm (As := [.int (xs (nI (5 * k) + 1).toNatClampNeg)]) (o := some (.int v)) (τ := τ1) (c_X7_setLimit (l := l) kmz (res := (v, τ1)) q2) kmz (by decide) (ci := 7) rfl (cwV 1 hts (bz_gVL wd_10_0 wd_10_1 wd_10_2 wd_1_5 wd_10_3) rfl rfl rfl (by decide +kernel) ⟨Nat.le_of_ble_eq_true rfl, Nat.le_of_ble_eq_true rfl⟩) rfl hl.1 rfl (Nat.le_of_ble_eq_true rfl) ⟨Nat.le_of_ble_eq_true rfl, Nat.le_of_ble_eq_true rfl⟩ dL_law_253 rfl (fun H hN hz1 hq => ?_)
        have hm := hN
        have hc := holdC σ1 _ _ hc hz1 hq
        refine lv_icmp_eq (tgt := 808) hx hb dL_law_256 (by decide) (fun _ => ?_) (fun c => absurd rfl c)
        exact go σ1 τ1 _ hR hc hm
      by_cases c3 : op = 3
      · refine lv_tableIn (tgt := 261) hx hb dL_law_32 (by rw [c3]; decide) (by rw [c3]; decide) (by rw [c3]; rfl) (by decide) ?_
        have fan : ∀ v0 : Int32, (v0 = 0 ∨ v0 = 1) → (xs (nI (5 * k) + 1).toNatClampNeg = 0 → v0 = 0) → (¬ xs (nI (5 * k) + 1).toNatClampNeg = 0 → v0 = 1) → W p l e room_1 s m #[Value.ref b] below meth c H [] 179 3402 (lw_Z below #[Value.ref b] s) (F0 m 261 ls []) := by
          intro v0 hv0 hf0 hf1
          obtain ⟨v, σ1, τ1, q1, q2, hR⟩ := sm_setFan hrel hk5 v0 hv0
          refine lv_aload_n hx hb dL_law_261 rfl (lv_at hl 1 rfl) ?_
          refine lv_aload_n hx hb dL_law_262 rfl (lv_at hl 0 rfl) ?_
          refine lv_iload_n hx hb dL_law_263 rfl (lv_at hl 3 rfl) ?_
          refine lv_iconst (v := 1) hx hb dL_law_264 (by decide) ?_
          refine lv_iadd hx hb dL_law_265 ?_
          refine va_sld hx hb hX hbl hbA hc.2.2 ix1 dL_law_266 ?_
          have join1 : W p l e room_1 s m #[Value.ref b] below meth c H [] 179 3402 (lw_Z below #[Value.ref b] s) (F0 m 275 ls (.int v0 :: .ref z :: [])) → W p l e room_1 s m #[Value.ref b] below meth c H [] 179 3402 (lw_Z below #[Value.ref b] s) (F0 m 267 ls (.int (xs (nI (5 * k) + 1).toNatClampNeg) :: .ref z :: [])) := by
            intro hw
            refine lv_if_eq (tgt := 274) hx hb dL_law_267 (by decide) (fun c => ?_) (fun c => ?_)
            · rw [hf0 c] at hw
              refine lv_iconst (v := 0) hx hb dL_law_274 (by decide) ?_
              exact hw
            · rw [hf1 c] at hw
              refine lv_iconst (v := 1) hx hb dL_law_270 (by decide) ?_
              refine lv_goto (tgt := 275) hx hb dL_law_271 (by decide) ?_
              exact hw
          refine join1 ?_
          refine lw_call Cc hAc (rest := []) (st1 := [.int v]) hc (As := [.int v0]) (o := some (.int v)) (τ := σ1) (c_X6_setFan (l := l) kz (res := (v, σ1)) q1) kz (by decide) (ci := 6) rfl (cwV 1 hts (bz_gVL wd_10_4 wd_10_5 wd_10_6 wd_1_2 wd_10_7) rfl rfl rfl (by decide +kernel) ⟨Nat.le_of_ble_eq_true rfl, Nat.le_of_ble_eq_true rfl⟩) rfl hl.1 rfl (Nat.le_of_ble_eq_true rfl) ⟨Nat.le_of_ble_eq_true rfl, Nat.le_of_ble_eq_true rfl⟩ dL_law_275 rfl (fun H hN hz1 hq => ?_)
          have hc := hN
          have hm := holdM τ _ _ hm hz1 hq
          refine lv_aload_n hx hb dL_law_278 rfl (lv_at hl 2 rfl) ?_
          refine lv_aload_n hx hb dL_law_279 rfl (lv_at hl 0 rfl) ?_
          refine lv_iload_n hx hb dL_law_280 rfl (lv_at hl 3 rfl) ?_
          refine lv_iconst (v := 1) hx hb dL_law_281 (by decide) ?_
          refine lv_iadd hx hb dL_law_282 ?_
          refine va_sld hx hb hX hbl hbA hc.2.2 ix1 dL_law_283 ?_
          have join2 : W p l e room_1 s m #[Value.ref b] below meth c H [] 179 3402 (lw_Z below #[Value.ref b] s) (F0 m 292 ls (.int v0 :: .ref (z + 173) :: [.int v])) → W p l e room_1 s m #[Value.ref b] below meth c H [] 179 3402 (lw_Z below #[Value.ref b] s) (F0 m 284 ls (.int (xs (nI (5 * k) + 1).toNatClampNeg) :: .ref (z + 173) :: [.int v])) := by
            intro hw
            refine lv_if_eq (tgt := 291) hx hb dL_law_284 (by decide) (fun c => ?_) (fun c => ?_)
            · rw [hf0 c] at hw
              refine lv_iconst (v := 0) hx hb dL_law_291 (by decide) ?_
              exact hw
            · rw [hf1 c] at hw
              refine lv_iconst (v := 1) hx hb dL_law_287 (by decide) ?_
              refine lv_goto (tgt := 292) hx hb dL_law_288 (by decide) ?_
              exact hw
          refine join2 ?_
          refine lw_call Cm hAm (rest := [.int v]) (st1 := [.int v, .int v]) hm (As := [.int v0]) (o := some (.int v)) (τ := τ1) (c_X7_setFan (l := l) kmz (res := (v, τ1)) q2) kmz (by decide) (ci := 7) rfl (cwV 1 hts (bz_gVL wd_12_12 wd_12_13 wd_12_14 wd_1_5 wd_12_15) rfl rfl rfl (by decide +kernel) ⟨Nat.le_of_ble_eq_true rfl, Nat.le_of_ble_eq_true rfl⟩) rfl hl.1 rfl (Nat.le_of_ble_eq_true rfl) ⟨Nat.le_of_ble_eq_true rfl, Nat.le_of_ble_eq_true rfl⟩ dL_law_292 rfl (fun H hN hz1 hq => ?_)
          have hm := hN
          have hc := holdC σ1 _ _ hc hz1 hq
          refine lv_icmp_eq (tgt := 808) hx hb dL_law_295 (by decide) (fun _ => ?_) (fun c => absurd rfl c)
          exact go σ1 τ1 _ hR hc hm
        by_cases c0 : xs (nI (5 * k) + 1).toNatClampNeg = 0
        · exact fan 0 (Or.inl rfl) (fun _ => rfl) (fun h => absurd c0 h)
        · exact fan 1 (Or.inr rfl) (fun h => absurd h c0) (fun _ => rfl)
      by_cases c4 : op = 4
      · refine lv_tableIn (tgt := 300) hx hb dL_law_32 (by rw [c4]; decide) (by rw [c4]; decide) (by rw [c4]; rfl) (by decide) ?_
        obtain ⟨v, σ1, τ1, q1, q2, hR⟩ := sm_request hrel hk5 (xs (nI (5 * k) + 1).toNatClampNeg)
        refine lv_aload_n hx hb dL_law_300 rfl (lv_at hl 1 rfl) ?_
        refine lv_aload_n hx hb dL_law_301 rfl (lv_at hl 0 rfl) ?_
        refine lv_iload_n hx hb dL_law_302 rfl (lv_at hl 3 rfl) ?_
        refine lv_iconst (v := 1) hx hb dL_law_303 (by decide) ?_
        refine lv_iadd hx hb dL_law_304 ?_
        refine va_sld hx hb hX hbl hbA hc.2.2 ix1 dL_law_305 ?_
        refine lw_call Cc hAc (rest := []) (st1 := [.int v]) hc (As := [.int (xs (nI (5 * k) + 1).toNatClampNeg)]) (o := some (.int v)) (τ := σ1) (c_X6_request (l := l) kz (res := (v, σ1)) q1) kz (by decide) (ci := 6) rfl (cwV 1 hts (bz_gVL wd_12_16 wd_12_17 wd_12_18 wd_1_2 wd_12_19) rfl rfl rfl (by decide +kernel) ⟨Nat.le_of_ble_eq_true rfl, Nat.le_of_ble_eq_true rfl⟩) rfl hl.1 rfl (Nat.le_of_ble_eq_true rfl) ⟨Nat.le_of_ble_eq_true rfl, Nat.le_of_ble_eq_true rfl⟩ dL_law_306 rfl (fun H hN hz1 hq => ?_)
        have hc := hN
        have hm := holdM τ _ _ hm hz1 hq
        refine lv_aload_n hx hb dL_law_309 rfl (lv_at hl 2 rfl) ?_
        refine lv_aload_n hx hb dL_law_310 rfl (lv_at hl 0 rfl) ?_
        refine lv_iload_n hx hb dL_law_311 rfl (lv_at hl 3 rfl) ?_
        refine lv_iconst (v := 1) hx hb dL_law_312 (by decide) ?_
        refine lv_iadd hx hb dL_law_313 ?_
        refine va_sld hx hb hX hbl hbA hc.2.2 ix1 dL_law_314 ?_
        refine lw_call Cm hAm (rest := [.int v]) (st1 := [.int v, .int v]) hm (As := [.int (xs (nI (5 * k) + 1).toNatClampNeg)]) (o := some (.int v)) (τ := τ1) (c_X7_request (l := l) kmz (res := (v, τ1)) q2) kmz (by decide) (ci := 7) rfl (cwV 1 hts (bz_gVL wd_13_14 wd_13_15 wd_13_16 wd_1_5 wd_13_17) rfl rfl rfl (by decide +kernel) ⟨Nat.le_of_ble_eq_true rfl, Nat.le_of_ble_eq_true rfl⟩) rfl hl.1 rfl (Nat.le_of_ble_eq_true rfl) ⟨Nat.le_of_ble_eq_true rfl, Nat.le_of_ble_eq_true rfl⟩ dL_law_315 rfl (fun H hN hz1 hq => ?_)
        have hm := hN
        have hc := holdC σ1 _ _ hc hz1 hq
        refine lv_icmp_eq (tgt := 808) hx hb dL_law_318 (by decide) (fun _ => ?_) (fun c => absurd rfl c)
        exact go σ1 τ1 _ hR hc hm
      by_cases c5 : op = 5
      · refine lv_tableIn (tgt := 323) hx hb dL_law_32 (by rw [c5]; decide) (by rw [c5]; decide) (by rw [c5]; rfl) (by decide) ?_
        obtain ⟨v, σ1, τ1, q1, q2, hR⟩ := sm_stop hrel hk5 (xs (nI (5 * k) + 1).toNatClampNeg)
        refine lv_aload_n hx hb dL_law_323 rfl (lv_at hl 1 rfl) ?_
        refine lv_aload_n hx hb dL_law_324 rfl (lv_at hl 0 rfl) ?_
        refine lv_iload_n hx hb dL_law_325 rfl (lv_at hl 3 rfl) ?_
        refine lv_iconst (v := 1) hx hb dL_law_326 (by decide) ?_
        refine lv_iadd hx hb dL_law_327 ?_
        refine va_sld hx hb hX hbl hbA hc.2.2 ix1 dL_law_328 ?_
        refine lw_call Cc hAc (rest := []) (st1 := [.int v]) hc (As := [.int (xs (nI (5 * k) + 1).toNatClampNeg)]) (o := some (.int v)) (τ := σ1) (c_X6_stop (l := l) kz (res := (v, σ1)) q1) kz (by decide) (ci := 6) rfl (cwV 1 hts (bz_gVL wd_15_10 wd_15_11 wd_15_12 wd_1_2 wd_15_13) rfl rfl rfl (by decide +kernel) ⟨Nat.le_of_ble_eq_true rfl, Nat.le_of_ble_eq_true rfl⟩) rfl hl.1 rfl (Nat.le_of_ble_eq_true rfl) ⟨Nat.le_of_ble_eq_true rfl, Nat.le_of_ble_eq_true rfl⟩ dL_law_329 rfl (fun H hN hz1 hq => ?_)
        have hc := hN
        have hm := holdM τ _ _ hm hz1 hq
        refine lv_aload_n hx hb dL_law_332 rfl (lv_at hl 2 rfl) ?_
        refine lv_aload_n hx hb dL_law_333 rfl (lv_at hl 0 rfl) ?_
        refine lv_iload_n hx hb dL_law_334 rfl (lv_at hl 3 rfl) ?_
        refine lv_iconst (v := 1) hx hb dL_law_335 (by decide) ?_
        refine lv_iadd hx hb dL_law_336 ?_
        refine va_sld hx hb hX hbl hbA hc.2.2 ix1 dL_law_337 ?_
        refine lw_call Cm hAm (rest := [.int v]) (st1 := [.int v, .int v]) hm (As := [.int (xs (nI (5 * k) + 1).toNatClampNeg)]) (o := some (.int v)) (τ := τ1) (c_X7_stop (l := l) kmz (res := (v, τ1)) q2) kmz (by decide) (ci := 7) rfl (cwV 1 hts (bz_gVL wd_15_14 wd_15_15 wd_15_16 wd_1_5 wd_15_17) rfl rfl rfl (by decide +kernel) ⟨Nat.le_of_ble_eq_true rfl, Nat.le_of_ble_eq_true rfl⟩) rfl hl.1 rfl (Nat.le_of_ble_eq_true rfl) ⟨Nat.le_of_ble_eq_true rfl, Nat.le_of_ble_eq_true rfl⟩ dL_law_338 rfl (fun H hN hz1 hq => ?_)
        have hm := hN
        have hc := holdC σ1 _ _ hc hz1 hq
        refine lv_icmp_eq (tgt := 808) hx hb dL_law_341 (by decide) (fun _ => ?_) (fun c => absurd rfl c)
        exact go σ1 τ1 _ hR hc hm
      by_cases c6 : op = 6
      · refine lv_tableIn (tgt := 346) hx hb dL_law_32 (by rw [c6]; decide) (by rw [c6]; decide) (by rw [c6]; rfl) (by decide) ?_
        obtain ⟨v, σ1, τ1, q1, q2, hR⟩ := sm_losePhases hrel hk5 (xs (nI (5 * k) + 1).toNatClampNeg) (xs (nI (5 * k) + 2).toNatClampNeg)
        refine lv_aload_n hx hb dL_law_346 rfl (lv_at hl 1 rfl) ?_
        refine lv_aload_n hx hb dL_law_347 rfl (lv_at hl 0 rfl) ?_
        refine lv_iload_n hx hb dL_law_348 rfl (lv_at hl 3 rfl) ?_
        refine lv_iconst (v := 1) hx hb dL_law_349 (by decide) ?_
        refine lv_iadd hx hb dL_law_350 ?_
        refine va_sld hx hb hX hbl hbA hc.2.2 ix1 dL_law_351 ?_
        refine lv_aload_n hx hb dL_law_352 rfl (lv_at hl 0 rfl) ?_
        refine lv_iload_n hx hb dL_law_353 rfl (lv_at hl 3 rfl) ?_
        refine lv_iconst (v := 2) hx hb dL_law_354 (by decide) ?_
        refine lv_iadd hx hb dL_law_355 ?_
        refine va_sld hx hb hX hbl hbA hc.2.2 ix2 dL_law_356 ?_
        refine lw_call Cc hAc (rest := []) (st1 := [.int v]) hc (As := [.int (xs (nI (5 * k) + 1).toNatClampNeg), .int (xs (nI (5 * k) + 2).toNatClampNeg)]) (o := some (.int v)) (τ := σ1) (c_X6_losePhases (l := l) kz (res := (v, σ1)) q1) kz (by decide) (ci := 6) rfl (cwV 2 hts (bz_gVL wd_15_18 wd_15_19 wd_15_20 wd_1_2 wd_15_21) rfl rfl rfl (by decide +kernel) ⟨Nat.le_of_ble_eq_true rfl, Nat.le_of_ble_eq_true rfl⟩) rfl hl.1 rfl (Nat.le_of_ble_eq_true rfl) ⟨Nat.le_of_ble_eq_true rfl, Nat.le_of_ble_eq_true rfl⟩ dL_law_357 rfl (fun H hN hz1 hq => ?_)
        have hc := hN
        have hm := holdM τ _ _ hm hz1 hq
        refine lv_aload_n hx hb dL_law_360 rfl (lv_at hl 2 rfl) ?_
        refine lv_aload_n hx hb dL_law_361 rfl (lv_at hl 0 rfl) ?_
        refine lv_iload_n hx hb dL_law_362 rfl (lv_at hl 3 rfl) ?_
        refine lv_iconst (v := 1) hx hb dL_law_363 (by decide) ?_
        refine lv_iadd hx hb dL_law_364 ?_
        refine va_sld hx hb hX hbl hbA hc.2.2 ix1 dL_law_365 ?_
        refine lv_aload_n hx hb dL_law_366 rfl (lv_at hl 0 rfl) ?_
        refine lv_iload_n hx hb dL_law_367 rfl (lv_at hl 3 rfl) ?_
        refine lv_iconst (v := 2) hx hb dL_law_368 (by decide) ?_
        refine lv_iadd hx hb dL_law_369 ?_
        refine va_sld hx hb hX hbl hbA hc.2.2 ix2 dL_law_370 ?_
        refine lw_call Cm hAm (rest := [.int v]) (st1 := [.int v, .int v]) hm (As := [.int (xs (nI (5 * k) + 1).toNatClampNeg), .int (xs (nI (5 * k) + 2).toNatClampNeg)]) (o := some (.int v)) (τ := τ1) (c_X7_losePhases (l := l) kmz (res := (v, τ1)) q2) kmz (by decide) (ci := 7) rfl (cwV 2 hts (bz_gVL wd_15_22 wd_15_23 wd_16_0 wd_1_5 wd_16_1) rfl rfl rfl (by decide +kernel) ⟨Nat.le_of_ble_eq_true rfl, Nat.le_of_ble_eq_true rfl⟩) rfl hl.1 rfl (Nat.le_of_ble_eq_true rfl) ⟨Nat.le_of_ble_eq_true rfl, Nat.le_of_ble_eq_true rfl⟩ dL_law_371 rfl (fun H hN hz1 hq => ?_)
        have hm := hN
        have hc := holdC σ1 _ _ hc hz1 hq
        refine lv_icmp_eq (tgt := 808) hx hb dL_law_374 (by decide) (fun _ => ?_) (fun c => absurd rfl c)
        exact go σ1 τ1 _ hR hc hm
      by_cases c7 : op = 7
      · refine lv_tableIn (tgt := 379) hx hb dL_law_32 (by rw [c7]; decide) (by rw [c7]; decide) (by rw [c7]; rfl) (by decide) ?_
        obtain ⟨v, σ1, τ1, q1, q2, hR⟩ := sm_reset hrel hk5 (xs (nI (5 * k) + 1).toNatClampNeg)
        refine lv_aload_n hx hb dL_law_379 rfl (lv_at hl 1 rfl) ?_
        refine lv_aload_n hx hb dL_law_380 rfl (lv_at hl 0 rfl) ?_
        refine lv_iload_n hx hb dL_law_381 rfl (lv_at hl 3 rfl) ?_
        refine lv_iconst (v := 1) hx hb dL_law_382 (by decide) ?_
        refine lv_iadd hx hb dL_law_383 ?_
        refine va_sld hx hb hX hbl hbA hc.2.2 ix1 dL_law_384 ?_
        refine lw_call Cc hAc (rest := []) (st1 := [.int v]) hc (As := [.int (xs (nI (5 * k) + 1).toNatClampNeg)]) (o := some (.int v)) (τ := σ1) (c_X6_reset (l := l) kz (res := (v, σ1)) q1) kz (by decide) (ci := 6) rfl (cwV 1 hts (bz_gVL wd_16_2 wd_16_3 wd_16_4 wd_1_2 wd_16_5) rfl rfl rfl (by decide +kernel) ⟨Nat.le_of_ble_eq_true rfl, Nat.le_of_ble_eq_true rfl⟩) rfl hl.1 rfl (Nat.le_of_ble_eq_true rfl) ⟨Nat.le_of_ble_eq_true rfl, Nat.le_of_ble_eq_true rfl⟩ dL_law_385 rfl (fun H hN hz1 hq => ?_)
        have hc := hN
        have hm := holdM τ _ _ hm hz1 hq
        refine lv_aload_n hx hb dL_law_388 rfl (lv_at hl 2 rfl) ?_
        refine lv_aload_n hx hb dL_law_389 rfl (lv_at hl 0 rfl) ?_
        refine lv_iload_n hx hb dL_law_390 rfl (lv_at hl 3 rfl) ?_
        refine lv_iconst (v := 1) hx hb dL_law_391 (by decide) ?_
        refine lv_iadd hx hb dL_law_392 ?_
        refine va_sld hx hb hX hbl hbA hc.2.2 ix1 dL_law_393 ?_
        refine lw_call Cm hAm (rest := [.int v]) (st1 := [.int v, .int v]) hm (As := [.int (xs (nI (5 * k) + 1).toNatClampNeg)]) (o := some (.int v)) (τ := τ1) (c_X7_reset (l := l) kmz (res := (v, τ1)) q2) kmz (by decide) (ci := 7) rfl (cwV 1 hts (bz_gVL wd_16_6 wd_16_7 wd_16_8 wd_1_5 wd_16_9) rfl rfl rfl (by decide +kernel) ⟨Nat.le_of_ble_eq_true rfl, Nat.le_of_ble_eq_true rfl⟩) rfl hl.1 rfl (Nat.le_of_ble_eq_true rfl) ⟨Nat.le_of_ble_eq_true rfl, Nat.le_of_ble_eq_true rfl⟩ dL_law_394 rfl (fun H hN hz1 hq => ?_)
        have hm := hN
        have hc := holdC σ1 _ _ hc hz1 hq
        refine lv_icmp_eq (tgt := 808) hx hb dL_law_397 (by decide) (fun _ => ?_) (fun c => absurd rfl c)
        exact go σ1 τ1 _ hR hc hm
      by_cases c8 : op = 8
      · refine lv_tableIn (tgt := 402) hx hb dL_law_32 (by rw [c8]; decide) (by rw [c8]; decide) (by rw [c8]; rfl) (by decide) ?_
        obtain ⟨v, σ1, τ1, q1, q2, hR⟩ := sm_pass hrel hk5 (xs (nI (5 * k) + 1).toNatClampNeg)
        refine lv_aload_n hx hb dL_law_402 rfl (lv_at hl 1 rfl) ?_
        refine lv_aload_n hx hb dL_law_403 rfl (lv_at hl 0 rfl) ?_
        refine lv_iload_n hx hb dL_law_404 rfl (lv_at hl 3 rfl) ?_
        refine lv_iconst (v := 1) hx hb dL_law_405 (by decide) ?_
        refine lv_iadd hx hb dL_law_406 ?_
        refine va_sld hx hb hX hbl hbA hc.2.2 ix1 dL_law_407 ?_
        refine lw_call Cc hAc (rest := []) (st1 := [.int v]) hc (As := [.int (xs (nI (5 * k) + 1).toNatClampNeg)]) (o := some (.int v)) (τ := σ1) (c_X6_pass (l := l) kz (res := (v, σ1)) q1) kz (by decide) (ci := 6) rfl (cwV 1 hts (bz_gVL wd_16_10 wd_16_11 wd_16_12 wd_1_2 wd_16_13) rfl rfl rfl (by decide +kernel) ⟨Nat.le_of_ble_eq_true rfl, Nat.le_of_ble_eq_true rfl⟩) rfl hl.1 rfl (Nat.le_of_ble_eq_true rfl) ⟨Nat.le_of_ble_eq_true rfl, Nat.le_of_ble_eq_true rfl⟩ dL_law_408 rfl (fun H hN hz1 hq => ?_)
        have hc := hN
        have hm := holdM τ _ _ hm hz1 hq
        refine lv_aload_n hx hb dL_law_411 rfl (lv_at hl 2 rfl) ?_
        refine lv_aload_n hx hb dL_law_412 rfl (lv_at hl 0 rfl) ?_
        refine lv_iload_n hx hb dL_law_413 rfl (lv_at hl 3 rfl) ?_
        refine lv_iconst (v := 1) hx hb dL_law_414 (by decide) ?_
        refine lv_iadd hx hb dL_law_415 ?_
        refine va_sld hx hb hX hbl hbA hc.2.2 ix1 dL_law_416 ?_
        refine lw_call Cm hAm (rest := [.int v]) (st1 := [.int v, .int v]) hm (As := [.int (xs (nI (5 * k) + 1).toNatClampNeg)]) (o := some (.int v)) (τ := τ1) (c_X7_pass (l := l) kmz (res := (v, τ1)) q2) kmz (by decide) (ci := 7) rfl (cwV 1 hts (bz_gVL wd_19_16 wd_19_17 wd_19_18 wd_1_5 wd_19_19) rfl rfl rfl (by decide +kernel) ⟨Nat.le_of_ble_eq_true rfl, Nat.le_of_ble_eq_true rfl⟩) rfl hl.1 rfl (Nat.le_of_ble_eq_true rfl) ⟨Nat.le_of_ble_eq_true rfl, Nat.le_of_ble_eq_true rfl⟩ dL_law_417 rfl (fun H hN hz1 hq => ?_)
        have hm := hN
        have hc := holdC σ1 _ _ hc hz1 hq
        refine lv_icmp_eq (tgt := 808) hx hb dL_law_420 (by decide) (fun _ => ?_) (fun c => absurd rfl c)
        exact go σ1 τ1 _ hR hc hm
      by_cases c9 : op = 9
      · refine lv_tableIn (tgt := 425) hx hb dL_law_32 (by rw [c9]; decide) (by rw [c9]; decide) (by rw [c9]; rfl) (by decide) ?_
        obtain ⟨v, σ1, τ1, q1, q2, hR⟩ := sm_type hrel hk5 (((xs (nI (5 * k) + 1).toNatClampNeg).toUInt32 % 65536).toInt32)
        refine lv_aload_n hx hb dL_law_425 rfl (lv_at hl 1 rfl) ?_
        refine lv_aload_n hx hb dL_law_426 rfl (lv_at hl 0 rfl) ?_
        refine lv_iload_n hx hb dL_law_427 rfl (lv_at hl 3 rfl) ?_
        refine lv_iconst (v := 1) hx hb dL_law_428 (by decide) ?_
        refine lv_iadd hx hb dL_law_429 ?_
        refine va_sld hx hb hX hbl hbA hc.2.2 ix1 dL_law_430 ?_
        refine lv_i2c hx hb dL_law_431 rfl ?_
        refine lw_call Cc hAc (rest := []) (st1 := [.int v]) hc (As := [.int (((xs (nI (5 * k) + 1).toNatClampNeg).toUInt32 % 65536).toInt32)]) (o := some (.int v)) (τ := σ1) (c_X6_type (l := l) kz (res := (v, σ1)) q1) kz (by decide) (ci := 6) rfl (cwV 1 hts (bz_gVL wd_21_23 wd_22_0 wd_22_1 wd_1_2 wd_22_2) rfl rfl rfl (by decide +kernel) ⟨Nat.le_of_ble_eq_true rfl, Nat.le_of_ble_eq_true rfl⟩) rfl hl.1 rfl (Nat.le_of_ble_eq_true rfl) ⟨Nat.le_of_ble_eq_true rfl, Nat.le_of_ble_eq_true rfl⟩ dL_law_432 rfl (fun H hN hz1 hq => ?_)
        have hc := hN
        have hm := holdM τ _ _ hm hz1 hq
        refine lv_aload_n hx hb dL_law_435 rfl (lv_at hl 2 rfl) ?_
        refine lv_aload_n hx hb dL_law_436 rfl (lv_at hl 0 rfl) ?_
        refine lv_iload_n hx hb dL_law_437 rfl (lv_at hl 3 rfl) ?_
        refine lv_iconst (v := 1) hx hb dL_law_438 (by decide) ?_
        refine lv_iadd hx hb dL_law_439 ?_
        refine va_sld hx hb hX hbl hbA hc.2.2 ix1 dL_law_440 ?_
        refine lv_i2c hx hb dL_law_441 rfl ?_
        refine lw_call Cm hAm (rest := [.int v]) (st1 := [.int v, .int v]) hm (As := [.int (((xs (nI (5 * k) + 1).toNatClampNeg).toUInt32 % 65536).toInt32)]) (o := some (.int v)) (τ := τ1) (c_X7_type (l := l) kmz (res := (v, τ1)) q2) kmz (by decide) (ci := 7) rfl (cwV 1 hts (bz_gVL wd_22_5 wd_22_6 wd_22_7 wd_1_5 wd_22_8) rfl rfl rfl (by decide +kernel) ⟨Nat.le_of_ble_eq_true rfl, Nat.le_of_ble_eq_true rfl⟩) rfl hl.1 rfl (Nat.le_of_ble_eq_true rfl) ⟨Nat.le_of_ble_eq_true rfl, Nat.le_of_ble_eq_true rfl⟩ dL_law_442 rfl (fun H hN hz1 hq => ?_)
        have hm := hN
        have hc := holdC σ1 _ _ hc hz1 hq
        refine lv_icmp_eq (tgt := 808) hx hb dL_law_445 (by decide) (fun _ => ?_) (fun c => absurd rfl c)
        exact go σ1 τ1 _ hR hc hm
      by_cases c10 : op = 10
      · refine lv_tableIn (tgt := 450) hx hb dL_law_32 (by rw [c10]; decide) (by rw [c10]; decide) (by rw [c10]; rfl) (by decide) ?_
        obtain ⟨v, σ1, τ1, q1, q2, hR⟩ := sm_clearText hrel hk5 
        refine lv_aload_n hx hb dL_law_450 rfl (lv_at hl 1 rfl) ?_
        refine lw_call Cc hAc (rest := []) (st1 := [.int v]) hc (As := []) (o := some (.int v)) (τ := σ1) (c_X6_clearText (l := l) kz (res := (v, σ1)) q1) kz (by decide) (ci := 6) rfl (cwV 0 hts (bz_gVL wd_22_10 wd_22_11 wd_22_12 wd_1_2 wd_22_13) rfl rfl rfl (by decide +kernel) ⟨Nat.le_of_ble_eq_true rfl, Nat.le_of_ble_eq_true rfl⟩) rfl hl.1 rfl (Nat.le_of_ble_eq_true rfl) ⟨Nat.le_of_ble_eq_true rfl, Nat.le_of_ble_eq_true rfl⟩ dL_law_451 rfl (fun H hN hz1 hq => ?_)
        have hc := hN
        have hm := holdM τ _ _ hm hz1 hq
        refine lv_aload_n hx hb dL_law_454 rfl (lv_at hl 2 rfl) ?_
        refine lw_call Cm hAm (rest := [.int v]) (st1 := [.int v, .int v]) hm (As := []) (o := some (.int v)) (τ := τ1) (c_X7_clearText (l := l) kmz (res := (v, τ1)) q2) kmz (by decide) (ci := 7) rfl (cwV 0 hts (bz_gVL wd_22_14 wd_22_15 wd_22_16 wd_1_5 wd_22_17) rfl rfl rfl (by decide +kernel) ⟨Nat.le_of_ble_eq_true rfl, Nat.le_of_ble_eq_true rfl⟩) rfl hl.1 rfl (Nat.le_of_ble_eq_true rfl) ⟨Nat.le_of_ble_eq_true rfl, Nat.le_of_ble_eq_true rfl⟩ dL_law_455 rfl (fun H hN hz1 hq => ?_)
        have hm := hN
        have hc := holdC σ1 _ _ hc hz1 hq
        refine lv_icmp_eq (tgt := 808) hx hb dL_law_458 (by decide) (fun _ => ?_) (fun c => absurd rfl c)
        exact go σ1 τ1 _ hR hc hm
      by_cases c11 : op = 11
      · refine lv_tableIn (tgt := 463) hx hb dL_law_32 (by rw [c11]; decide) (by rw [c11]; decide) (by rw [c11]; rfl) (by decide) ?_
        obtain ⟨v, σ1, τ1, q1, q2, hR⟩ := sm_readTimetable hrel hk5 
        refine lv_aload_n hx hb dL_law_463 rfl (lv_at hl 1 rfl) ?_
        refine lw_call Cc hAc (rest := []) (st1 := [.int v]) hc (As := []) (o := some (.int v)) (τ := σ1) (c_X6_readTimetable (l := l) kz (res := (v, σ1)) q1) kz (by decide) (ci := 6) rfl (cwV 0 hts (bz_gVL wd_22_18 wd_22_19 wd_22_20 wd_1_2 wd_22_21) rfl rfl rfl (by decide +kernel) ⟨Nat.le_of_ble_eq_true rfl, Nat.le_of_ble_eq_true rfl⟩) rfl hl.1 rfl (Nat.le_of_ble_eq_true rfl) ⟨Nat.le_of_ble_eq_true rfl, Nat.le_of_ble_eq_true rfl⟩ dL_law_464 rfl (fun H hN hz1 hq => ?_)
        have hc := hN
        have hm := holdM τ _ _ hm hz1 hq
        refine lv_aload_n hx hb dL_law_467 rfl (lv_at hl 2 rfl) ?_
        refine lw_call Cm hAm (rest := [.int v]) (st1 := [.int v, .int v]) hm (As := []) (o := some (.int v)) (τ := τ1) (c_X7_readTimetable (l := l) kmz (res := (v, τ1)) q2) kmz (by decide) (ci := 7) rfl (cwV 0 hts (bz_gVL wd_27_10 wd_27_11 wd_27_12 wd_1_5 wd_27_13) rfl rfl rfl (by decide +kernel) ⟨Nat.le_of_ble_eq_true rfl, Nat.le_of_ble_eq_true rfl⟩) rfl hl.1 rfl (Nat.le_of_ble_eq_true rfl) ⟨Nat.le_of_ble_eq_true rfl, Nat.le_of_ble_eq_true rfl⟩ dL_law_468 rfl (fun H hN hz1 hq => ?_)
        have hm := hN
        have hc := holdC σ1 _ _ hc hz1 hq
        refine lv_icmp_eq (tgt := 808) hx hb dL_law_471 (by decide) (fun _ => ?_) (fun c => absurd rfl c)
        exact go σ1 τ1 _ hR hc hm
      by_cases c12 : op = 12
      · refine lv_tableIn (tgt := 476) hx hb dL_law_32 (by rw [c12]; decide) (by rw [c12]; decide) (by rw [c12]; rfl) (by decide) ?_
        obtain ⟨v, σ1, τ1, q1, q2, hR⟩ := sm_undo hrel hk5 
        refine lv_aload_n hx hb dL_law_476 rfl (lv_at hl 1 rfl) ?_
        refine lw_call Cc hAc (rest := []) (st1 := [.int v]) hc (As := []) (o := some (.int v)) (τ := σ1) (c_X6_undo (l := l) kz (res := (v, σ1)) q1) kz (by decide) (ci := 6) rfl (cwV 0 hts (bz_gVL wd_28_20 wd_28_21 wd_28_22 wd_1_2 wd_28_23) rfl rfl rfl (by decide +kernel) ⟨Nat.le_of_ble_eq_true rfl, Nat.le_of_ble_eq_true rfl⟩) rfl hl.1 rfl (Nat.le_of_ble_eq_true rfl) ⟨Nat.le_of_ble_eq_true rfl, Nat.le_of_ble_eq_true rfl⟩ dL_law_477 rfl (fun H hN hz1 hq => ?_)
        have hc := hN
        have hm := holdM τ _ _ hm hz1 hq
        refine lv_aload_n hx hb dL_law_480 rfl (lv_at hl 2 rfl) ?_
        refine lw_call Cm hAm (rest := [.int v]) (st1 := [.int v, .int v]) hm (As := []) (o := some (.int v)) (τ := τ1) (c_X7_undo (l := l) kmz (res := (v, τ1)) q2) kmz (by decide) (ci := 7) rfl (cwV 0 hts (bz_gVL wd_29_5 wd_29_6 wd_29_7 wd_1_5 wd_29_8) rfl rfl rfl (by decide +kernel) ⟨Nat.le_of_ble_eq_true rfl, Nat.le_of_ble_eq_true rfl⟩) rfl hl.1 rfl (Nat.le_of_ble_eq_true rfl) ⟨Nat.le_of_ble_eq_true rfl, Nat.le_of_ble_eq_true rfl⟩ dL_law_481 rfl (fun H hN hz1 hq => ?_)
        have hm := hN
        have hc := holdC σ1 _ _ hc hz1 hq
        refine lv_icmp_eq (tgt := 808) hx hb dL_law_484 (by decide) (fun _ => ?_) (fun c => absurd rfl c)
        exact go σ1 τ1 _ hR hc hm
      by_cases c13 : op = 13
      · refine lv_tableIn (tgt := 489) hx hb dL_law_32 (by rw [c13]; decide) (by rw [c13]; decide) (by rw [c13]; rfl) (by decide) ?_
        obtain ⟨v, σ1, τ1, q1, q2, hR⟩ := sm_keep hrel hk5 
        refine lv_aload_n hx hb dL_law_489 rfl (lv_at hl 1 rfl) ?_
        refine lw_call Cc hAc (rest := []) (st1 := [.int v]) hc (As := []) (o := some (.int v)) (τ := σ1) (c_X6_keep (l := l) kz (res := (v, σ1)) q1) kz (by decide) (ci := 6) rfl (cwV 0 hts (bz_gVL wd_29_9 wd_29_10 wd_29_11 wd_1_2 wd_29_12) rfl rfl rfl (by decide +kernel) ⟨Nat.le_of_ble_eq_true rfl, Nat.le_of_ble_eq_true rfl⟩) rfl hl.1 rfl (Nat.le_of_ble_eq_true rfl) ⟨Nat.le_of_ble_eq_true rfl, Nat.le_of_ble_eq_true rfl⟩ dL_law_490 rfl (fun H hN hz1 hq => ?_)
        have hc := hN
        have hm := holdM τ _ _ hm hz1 hq
        refine lv_aload_n hx hb dL_law_493 rfl (lv_at hl 2 rfl) ?_
        refine lw_call Cm hAm (rest := [.int v]) (st1 := [.int v, .int v]) hm (As := []) (o := some (.int v)) (τ := τ1) (c_X7_keep (l := l) kmz (res := (v, τ1)) q2) kmz (by decide) (ci := 7) rfl (cwV 0 hts (bz_gVL wd_29_15 wd_29_16 wd_29_17 wd_1_5 wd_29_18) rfl rfl rfl (by decide +kernel) ⟨Nat.le_of_ble_eq_true rfl, Nat.le_of_ble_eq_true rfl⟩) rfl hl.1 rfl (Nat.le_of_ble_eq_true rfl) ⟨Nat.le_of_ble_eq_true rfl, Nat.le_of_ble_eq_true rfl⟩ dL_law_494 rfl (fun H hN hz1 hq => ?_)
        have hm := hN
        have hc := holdC σ1 _ _ hc hz1 hq
        refine lv_icmp_eq (tgt := 808) hx hb dL_law_497 (by decide) (fun _ => ?_) (fun c => absurd rfl c)
        exact go σ1 τ1 _ hR hc hm
      by_cases c14 : op = 14
      · refine lv_tableIn (tgt := 502) hx hb dL_law_32 (by rw [c14]; decide) (by rw [c14]; decide) (by rw [c14]; rfl) (by decide) ?_
        obtain ⟨v, σ1, τ1, q1, q2, hR⟩ := sm_restore hrel hk5 
        refine lv_aload_n hx hb dL_law_502 rfl (lv_at hl 1 rfl) ?_
        refine lw_call Cc hAc (rest := []) (st1 := [.int v]) hc (As := []) (o := some (.int v)) (τ := σ1) (c_X6_restore (l := l) kz (res := (v, σ1)) q1) kz (by decide) (ci := 6) rfl (cwV 0 hts (bz_gVL wd_29_20 wd_29_21 wd_29_22 wd_1_2 wd_29_23) rfl rfl rfl (by decide +kernel) ⟨Nat.le_of_ble_eq_true rfl, Nat.le_of_ble_eq_true rfl⟩) rfl hl.1 rfl (Nat.le_of_ble_eq_true rfl) ⟨Nat.le_of_ble_eq_true rfl, Nat.le_of_ble_eq_true rfl⟩ dL_law_503 rfl (fun H hN hz1 hq => ?_)
        have hc := hN
        have hm := holdM τ _ _ hm hz1 hq
        refine lv_aload_n hx hb dL_law_506 rfl (lv_at hl 2 rfl) ?_
        refine lw_call Cm hAm (rest := [.int v]) (st1 := [.int v, .int v]) hm (As := []) (o := some (.int v)) (τ := τ1) (c_X7_restore (l := l) kmz (res := (v, τ1)) q2) kmz (by decide) (ci := 7) rfl (cwV 0 hts (bz_gVL wd_30_0 wd_30_1 wd_30_2 wd_1_5 wd_30_3) rfl rfl rfl (by decide +kernel) ⟨Nat.le_of_ble_eq_true rfl, Nat.le_of_ble_eq_true rfl⟩) rfl hl.1 rfl (Nat.le_of_ble_eq_true rfl) ⟨Nat.le_of_ble_eq_true rfl, Nat.le_of_ble_eq_true rfl⟩ dL_law_507 rfl (fun H hN hz1 hq => ?_)
        have hm := hN
        have hc := holdC σ1 _ _ hc hz1 hq
        refine lv_icmp_eq (tgt := 808) hx hb dL_law_510 (by decide) (fun _ => ?_) (fun c => absurd rfl c)
        exact go σ1 τ1 _ hR hc hm
      by_cases c15 : op = 15
      · refine lv_tableIn (tgt := 515) hx hb dL_law_32 (by rw [c15]; decide) (by rw [c15]; decide) (by rw [c15]; rfl) (by decide) ?_
        obtain ⟨v, σ1, τ1, q1, q2, hR⟩ := sm_motor hrel hk5 (xs (nI (5 * k) + 1).toNatClampNeg) (xs (nI (5 * k) + 2).toNatClampNeg)
        refine lv_aload_n hx hb dL_law_515 rfl (lv_at hl 1 rfl) ?_
        refine lv_aload_n hx hb dL_law_516 rfl (lv_at hl 0 rfl) ?_
        refine lv_iload_n hx hb dL_law_517 rfl (lv_at hl 3 rfl) ?_
        refine lv_iconst (v := 1) hx hb dL_law_518 (by decide) ?_
        refine lv_iadd hx hb dL_law_519 ?_
        refine va_sld hx hb hX hbl hbA hc.2.2 ix1 dL_law_520 ?_
        refine lv_aload_n hx hb dL_law_521 rfl (lv_at hl 0 rfl) ?_
        refine lv_iload_n hx hb dL_law_522 rfl (lv_at hl 3 rfl) ?_
        refine lv_iconst (v := 2) hx hb dL_law_523 (by decide) ?_
        refine lv_iadd hx hb dL_law_524 ?_
        refine va_sld hx hb hX hbl hbA hc.2.2 ix2 dL_law_525 ?_
        refine lw_call Cc hAc (rest := []) (st1 := [.int v]) hc (As := [.int (xs (nI (5 * k) + 1).toNatClampNeg), .int (xs (nI (5 * k) + 2).toNatClampNeg)]) (o := some (.int v)) (τ := σ1) (c_X6_motor (l := l) kz (res := (v, σ1)) q1) kz (by decide) (ci := 6) rfl (cwV 2 hts (bz_gVL wd_30_4 wd_30_5 wd_30_6 wd_1_2 wd_30_7) rfl rfl rfl (by decide +kernel) ⟨Nat.le_of_ble_eq_true rfl, Nat.le_of_ble_eq_true rfl⟩) rfl hl.1 rfl (Nat.le_of_ble_eq_true rfl) ⟨Nat.le_of_ble_eq_true rfl, Nat.le_of_ble_eq_true rfl⟩ dL_law_526 rfl (fun H hN hz1 hq => ?_)
        have hc := hN
        have hm := holdM τ _ _ hm hz1 hq
        refine lv_aload_n hx hb dL_law_529 rfl (lv_at hl 2 rfl) ?_
        refine lv_aload_n hx hb dL_law_530 rfl (lv_at hl 0 rfl) ?_
        refine lv_iload_n hx hb dL_law_531 rfl (lv_at hl 3 rfl) ?_
        refine lv_iconst (v := 1) hx hb dL_law_532 (by decide) ?_
        refine lv_iadd hx hb dL_law_533 ?_
        refine va_sld hx hb hX hbl hbA hc.2.2 ix1 dL_law_534 ?_
        refine lv_aload_n hx hb dL_law_535 rfl (lv_at hl 0 rfl) ?_
        refine lv_iload_n hx hb dL_law_536 rfl (lv_at hl 3 rfl) ?_
        refine lv_iconst (v := 2) hx hb dL_law_537 (by decide) ?_
        refine lv_iadd hx hb dL_law_538 ?_
        refine va_sld hx hb hX hbl hbA hc.2.2 ix2 dL_law_539 ?_
        refine lw_call Cm hAm (rest := [.int v]) (st1 := [.int v, .int v]) hm (As := [.int (xs (nI (5 * k) + 1).toNatClampNeg), .int (xs (nI (5 * k) + 2).toNatClampNeg)]) (o := some (.int v)) (τ := τ1) (c_X7_motor (l := l) kmz (res := (v, τ1)) q2) kmz (by decide) (ci := 7) rfl (cwV 2 hts (bz_gVL wd_30_18 wd_30_19 wd_30_20 wd_1_5 wd_30_21) rfl rfl rfl (by decide +kernel) ⟨Nat.le_of_ble_eq_true rfl, Nat.le_of_ble_eq_true rfl⟩) rfl hl.1 rfl (Nat.le_of_ble_eq_true rfl) ⟨Nat.le_of_ble_eq_true rfl, Nat.le_of_ble_eq_true rfl⟩ dL_law_540 rfl (fun H hN hz1 hq => ?_)
        have hm := hN
        have hc := holdC σ1 _ _ hc hz1 hq
        refine lv_icmp_eq (tgt := 808) hx hb dL_law_543 (by decide) (fun _ => ?_) (fun c => absurd rfl c)
        exact go σ1 τ1 _ hR hc hm
      by_cases c16 : op = 16
      · refine lv_tableIn (tgt := 548) hx hb dL_law_32 (by rw [c16]; decide) (by rw [c16]; decide) (by rw [c16]; rfl) (by decide) ?_
        obtain ⟨v, σ1, τ1, q1, q2, hR⟩ := sm_account hrel hk5 (xs (nI (5 * k) + 1).toNatClampNeg) (xs (nI (5 * k) + 2).toNatClampNeg)
        refine lv_aload_n hx hb dL_law_548 rfl (lv_at hl 1 rfl) ?_
        refine lv_aload_n hx hb dL_law_549 rfl (lv_at hl 0 rfl) ?_
        refine lv_iload_n hx hb dL_law_550 rfl (lv_at hl 3 rfl) ?_
        refine lv_iconst (v := 1) hx hb dL_law_551 (by decide) ?_
        refine lv_iadd hx hb dL_law_552 ?_
        refine va_sld hx hb hX hbl hbA hc.2.2 ix1 dL_law_553 ?_
        refine lv_aload_n hx hb dL_law_554 rfl (lv_at hl 0 rfl) ?_
        refine lv_iload_n hx hb dL_law_555 rfl (lv_at hl 3 rfl) ?_
        refine lv_iconst (v := 2) hx hb dL_law_556 (by decide) ?_
        refine lv_iadd hx hb dL_law_557 ?_
        refine va_sld hx hb hX hbl hbA hc.2.2 ix2 dL_law_558 ?_
        refine lw_call Cc hAc (rest := []) (st1 := [.int v]) hc (As := [.int (xs (nI (5 * k) + 1).toNatClampNeg), .int (xs (nI (5 * k) + 2).toNatClampNeg)]) (o := some (.int v)) (τ := σ1) (c_X6_account (l := l) kz (res := (v, σ1)) q1) kz (by decide) (ci := 6) rfl (cwV 2 hts (bz_gVL wd_30_22 wd_30_23 wd_31_0 wd_1_2 wd_31_1) rfl rfl rfl (by decide +kernel) ⟨Nat.le_of_ble_eq_true rfl, Nat.le_of_ble_eq_true rfl⟩) rfl hl.1 rfl (Nat.le_of_ble_eq_true rfl) ⟨Nat.le_of_ble_eq_true rfl, Nat.le_of_ble_eq_true rfl⟩ dL_law_559 rfl (fun H hN hz1 hq => ?_)
        have hc := hN
        have hm := holdM τ _ _ hm hz1 hq
        refine lv_aload_n hx hb dL_law_562 rfl (lv_at hl 2 rfl) ?_
        refine lv_aload_n hx hb dL_law_563 rfl (lv_at hl 0 rfl) ?_
        refine lv_iload_n hx hb dL_law_564 rfl (lv_at hl 3 rfl) ?_
        refine lv_iconst (v := 1) hx hb dL_law_565 (by decide) ?_
        refine lv_iadd hx hb dL_law_566 ?_
        refine va_sld hx hb hX hbl hbA hc.2.2 ix1 dL_law_567 ?_
        refine lv_aload_n hx hb dL_law_568 rfl (lv_at hl 0 rfl) ?_
        refine lv_iload_n hx hb dL_law_569 rfl (lv_at hl 3 rfl) ?_
        refine lv_iconst (v := 2) hx hb dL_law_570 (by decide) ?_
        refine lv_iadd hx hb dL_law_571 ?_
        refine va_sld hx hb hX hbl hbA hc.2.2 ix2 dL_law_572 ?_
        refine lw_call Cm hAm (rest := [.int v]) (st1 := [.int v, .int v]) hm (As := [.int (xs (nI (5 * k) + 1).toNatClampNeg), .int (xs (nI (5 * k) + 2).toNatClampNeg)]) (o := some (.int v)) (τ := τ1) (c_X7_account (l := l) kmz (res := (v, τ1)) q2) kmz (by decide) (ci := 7) rfl (cwV 2 hts (bz_gVL wd_31_2 wd_31_3 wd_31_4 wd_1_5 wd_31_5) rfl rfl rfl (by decide +kernel) ⟨Nat.le_of_ble_eq_true rfl, Nat.le_of_ble_eq_true rfl⟩) rfl hl.1 rfl (Nat.le_of_ble_eq_true rfl) ⟨Nat.le_of_ble_eq_true rfl, Nat.le_of_ble_eq_true rfl⟩ dL_law_573 rfl (fun H hN hz1 hq => ?_)
        have hm := hN
        have hc := holdC σ1 _ _ hc hz1 hq
        refine lv_icmp_eq (tgt := 808) hx hb dL_law_576 (by decide) (fun _ => ?_) (fun c => absurd rfl c)
        exact go σ1 τ1 _ hR hc hm
      by_cases c17 : op = 17
      · refine lv_tableIn (tgt := 581) hx hb dL_law_32 (by rw [c17]; decide) (by rw [c17]; decide) (by rw [c17]; rfl) (by decide) ?_
        obtain ⟨v, σ1, τ1, q1, q2, hR⟩ := sm_queue hrel hk5 (xs (nI (5 * k) + 1).toNatClampNeg)
        refine lv_aload_n hx hb dL_law_581 rfl (lv_at hl 1 rfl) ?_
        refine lv_aload_n hx hb dL_law_582 rfl (lv_at hl 0 rfl) ?_
        refine lv_iload_n hx hb dL_law_583 rfl (lv_at hl 3 rfl) ?_
        refine lv_iconst (v := 1) hx hb dL_law_584 (by decide) ?_
        refine lv_iadd hx hb dL_law_585 ?_
        refine va_sld hx hb hX hbl hbA hc.2.2 ix1 dL_law_586 ?_
        refine lw_call Cc hAc (rest := []) (st1 := [.int v]) hc (As := [.int (xs (nI (5 * k) + 1).toNatClampNeg)]) (o := some (.int v)) (τ := σ1) (c_X6_queue (l := l) kz (res := (v, σ1)) q1) kz (by decide) (ci := 6) rfl (cwV 1 hts (bz_gVL wd_31_6 wd_31_7 wd_31_8 wd_1_2 wd_31_9) rfl rfl rfl (by decide +kernel) ⟨Nat.le_of_ble_eq_true rfl, Nat.le_of_ble_eq_true rfl⟩) rfl hl.1 rfl (Nat.le_of_ble_eq_true rfl) ⟨Nat.le_of_ble_eq_true rfl, Nat.le_of_ble_eq_true rfl⟩ dL_law_587 rfl (fun H hN hz1 hq => ?_)
        have hc := hN
        have hm := holdM τ _ _ hm hz1 hq
        refine lv_aload_n hx hb dL_law_590 rfl (lv_at hl 2 rfl) ?_
        refine lv_aload_n hx hb dL_law_591 rfl (lv_at hl 0 rfl) ?_
        refine lv_iload_n hx hb dL_law_592 rfl (lv_at hl 3 rfl) ?_
        refine lv_iconst (v := 1) hx hb dL_law_593 (by decide) ?_
        refine lv_iadd hx hb dL_law_594 ?_
        refine va_sld hx hb hX hbl hbA hc.2.2 ix1 dL_law_595 ?_
        refine lw_call Cm hAm (rest := [.int v]) (st1 := [.int v, .int v]) hm (As := [.int (xs (nI (5 * k) + 1).toNatClampNeg)]) (o := some (.int v)) (τ := τ1) (c_X7_queue (l := l) kmz (res := (v, τ1)) q2) kmz (by decide) (ci := 7) rfl (cwV 1 hts (bz_gVL wd_31_10 wd_31_11 wd_31_12 wd_1_5 wd_31_13) rfl rfl rfl (by decide +kernel) ⟨Nat.le_of_ble_eq_true rfl, Nat.le_of_ble_eq_true rfl⟩) rfl hl.1 rfl (Nat.le_of_ble_eq_true rfl) ⟨Nat.le_of_ble_eq_true rfl, Nat.le_of_ble_eq_true rfl⟩ dL_law_596 rfl (fun H hN hz1 hq => ?_)
        have hm := hN
        have hc := holdC σ1 _ _ hc hz1 hq
        refine lv_icmp_eq (tgt := 808) hx hb dL_law_599 (by decide) (fun _ => ?_) (fun c => absurd rfl c)
        exact go σ1 τ1 _ hR hc hm
      by_cases c18 : op = 18
      · refine lv_tableIn (tgt := 604) hx hb dL_law_32 (by rw [c18]; decide) (by rw [c18]; decide) (by rw [c18]; rfl) (by decide) ?_
        obtain ⟨v, σ1, τ1, q1, q2, hR⟩ := sm_whyNot hrel hk5 (xs (nI (5 * k) + 1).toNatClampNeg)
        refine lv_aload_n hx hb dL_law_604 rfl (lv_at hl 1 rfl) ?_
        refine lv_aload_n hx hb dL_law_605 rfl (lv_at hl 0 rfl) ?_
        refine lv_iload_n hx hb dL_law_606 rfl (lv_at hl 3 rfl) ?_
        refine lv_iconst (v := 1) hx hb dL_law_607 (by decide) ?_
        refine lv_iadd hx hb dL_law_608 ?_
        refine va_sld hx hb hX hbl hbA hc.2.2 ix1 dL_law_609 ?_
        refine lw_call Cc hAc (rest := []) (st1 := [.int v]) hc (As := [.int (xs (nI (5 * k) + 1).toNatClampNeg)]) (o := some (.int v)) (τ := σ1) (c_X6_whyNot (l := l) kz (res := (v, σ1)) q1) kz (by decide) (ci := 6) rfl (cwV 1 hts (bz_gVL wd_31_14 wd_31_15 wd_31_16 wd_1_2 wd_31_17) rfl rfl rfl (by decide +kernel) ⟨Nat.le_of_ble_eq_true rfl, Nat.le_of_ble_eq_true rfl⟩) rfl hl.1 rfl (Nat.le_of_ble_eq_true rfl) ⟨Nat.le_of_ble_eq_true rfl, Nat.le_of_ble_eq_true rfl⟩ dL_law_610 rfl (fun H hN hz1 hq => ?_)
        have hc := hN
        have hm := holdM τ _ _ hm hz1 hq
        refine lv_aload_n hx hb dL_law_613 rfl (lv_at hl 2 rfl) ?_
        refine lv_aload_n hx hb dL_law_614 rfl (lv_at hl 0 rfl) ?_
        refine lv_iload_n hx hb dL_law_615 rfl (lv_at hl 3 rfl) ?_
        refine lv_iconst (v := 1) hx hb dL_law_616 (by decide) ?_
        refine lv_iadd hx hb dL_law_617 ?_
        refine va_sld hx hb hX hbl hbA hc.2.2 ix1 dL_law_618 ?_
        refine lw_call Cm hAm (rest := [.int v]) (st1 := [.int v, .int v]) hm (As := [.int (xs (nI (5 * k) + 1).toNatClampNeg)]) (o := some (.int v)) (τ := τ1) (c_X7_whyNot (l := l) kmz (res := (v, τ1)) q2) kmz (by decide) (ci := 7) rfl (cwV 1 hts (bz_gVL wd_31_18 wd_31_19 wd_31_20 wd_1_5 wd_31_21) rfl rfl rfl (by decide +kernel) ⟨Nat.le_of_ble_eq_true rfl, Nat.le_of_ble_eq_true rfl⟩) rfl hl.1 rfl (Nat.le_of_ble_eq_true rfl) ⟨Nat.le_of_ble_eq_true rfl, Nat.le_of_ble_eq_true rfl⟩ dL_law_619 rfl (fun H hN hz1 hq => ?_)
        have hm := hN
        have hc := holdC σ1 _ _ hc hz1 hq
        refine lv_icmp_eq (tgt := 808) hx hb dL_law_622 (by decide) (fun _ => ?_) (fun c => absurd rfl c)
        exact go σ1 τ1 _ hR hc hm
      by_cases c19 : op = 19
      · refine lv_tableIn (tgt := 627) hx hb dL_law_32 (by rw [c19]; decide) (by rw [c19]; decide) (by rw [c19]; rfl) (by decide) ?_
        obtain ⟨v, σ1, τ1, q1, q2, hR⟩ := sm_event hrel hk5 (xs (nI (5 * k) + 1).toNatClampNeg) (xs (nI (5 * k) + 2).toNatClampNeg)
        refine lv_aload_n hx hb dL_law_627 rfl (lv_at hl 1 rfl) ?_
        refine lv_aload_n hx hb dL_law_628 rfl (lv_at hl 0 rfl) ?_
        refine lv_iload_n hx hb dL_law_629 rfl (lv_at hl 3 rfl) ?_
        refine lv_iconst (v := 1) hx hb dL_law_630 (by decide) ?_
        refine lv_iadd hx hb dL_law_631 ?_
        refine va_sld hx hb hX hbl hbA hc.2.2 ix1 dL_law_632 ?_
        refine lv_aload_n hx hb dL_law_633 rfl (lv_at hl 0 rfl) ?_
        refine lv_iload_n hx hb dL_law_634 rfl (lv_at hl 3 rfl) ?_
        refine lv_iconst (v := 2) hx hb dL_law_635 (by decide) ?_
        refine lv_iadd hx hb dL_law_636 ?_
        refine va_sld hx hb hX hbl hbA hc.2.2 ix2 dL_law_637 ?_
        refine lw_call Cc hAc (rest := []) (st1 := [.int v]) hc (As := [.int (xs (nI (5 * k) + 1).toNatClampNeg), .int (xs (nI (5 * k) + 2).toNatClampNeg)]) (o := some (.int v)) (τ := σ1) (c_X6_event (l := l) kz (res := (v, σ1)) q1) kz (by decide) (ci := 6) rfl (cwV 2 hts (bz_gVL wd_31_22 wd_31_23 wd_32_0 wd_1_2 wd_32_1) rfl rfl rfl (by decide +kernel) ⟨Nat.le_of_ble_eq_true rfl, Nat.le_of_ble_eq_true rfl⟩) rfl hl.1 rfl (Nat.le_of_ble_eq_true rfl) ⟨Nat.le_of_ble_eq_true rfl, Nat.le_of_ble_eq_true rfl⟩ dL_law_638 rfl (fun H hN hz1 hq => ?_)
        have hc := hN
        have hm := holdM τ _ _ hm hz1 hq
        refine lv_aload_n hx hb dL_law_641 rfl (lv_at hl 2 rfl) ?_
        refine lv_aload_n hx hb dL_law_642 rfl (lv_at hl 0 rfl) ?_
        refine lv_iload_n hx hb dL_law_643 rfl (lv_at hl 3 rfl) ?_
        refine lv_iconst (v := 1) hx hb dL_law_644 (by decide) ?_
        refine lv_iadd hx hb dL_law_645 ?_
        refine va_sld hx hb hX hbl hbA hc.2.2 ix1 dL_law_646 ?_
        refine lv_aload_n hx hb dL_law_647 rfl (lv_at hl 0 rfl) ?_
        refine lv_iload_n hx hb dL_law_648 rfl (lv_at hl 3 rfl) ?_
        refine lv_iconst (v := 2) hx hb dL_law_649 (by decide) ?_
        refine lv_iadd hx hb dL_law_650 ?_
        refine va_sld hx hb hX hbl hbA hc.2.2 ix2 dL_law_651 ?_
        refine lw_call Cm hAm (rest := [.int v]) (st1 := [.int v, .int v]) hm (As := [.int (xs (nI (5 * k) + 1).toNatClampNeg), .int (xs (nI (5 * k) + 2).toNatClampNeg)]) (o := some (.int v)) (τ := τ1) (c_X7_event (l := l) kmz (res := (v, τ1)) q2) kmz (by decide) (ci := 7) rfl (cwV 2 hts (bz_gVL wd_32_10 wd_32_11 wd_32_12 wd_1_5 wd_32_13) rfl rfl rfl (by decide +kernel) ⟨Nat.le_of_ble_eq_true rfl, Nat.le_of_ble_eq_true rfl⟩) rfl hl.1 rfl (Nat.le_of_ble_eq_true rfl) ⟨Nat.le_of_ble_eq_true rfl, Nat.le_of_ble_eq_true rfl⟩ dL_law_652 rfl (fun H hN hz1 hq => ?_)
        have hm := hN
        have hc := holdC σ1 _ _ hc hz1 hq
        refine lv_icmp_eq (tgt := 808) hx hb dL_law_655 (by decide) (fun _ => ?_) (fun c => absurd rfl c)
        exact go σ1 τ1 _ hR hc hm
      by_cases c20 : op = 20
      · refine lv_tableIn (tgt := 660) hx hb dL_law_32 (by rw [c20]; decide) (by rw [c20]; decide) (by rw [c20]; rfl) (by decide) ?_
        obtain ⟨v, σ1, τ1, q1, q2, hR⟩ := sm_item hrel hk5 (xs (nI (5 * k) + 1).toNatClampNeg) (xs (nI (5 * k) + 2).toNatClampNeg)
        refine lv_aload_n hx hb dL_law_660 rfl (lv_at hl 1 rfl) ?_
        refine lv_aload_n hx hb dL_law_661 rfl (lv_at hl 0 rfl) ?_
        refine lv_iload_n hx hb dL_law_662 rfl (lv_at hl 3 rfl) ?_
        refine lv_iconst (v := 1) hx hb dL_law_663 (by decide) ?_
        refine lv_iadd hx hb dL_law_664 ?_
        refine va_sld hx hb hX hbl hbA hc.2.2 ix1 dL_law_665 ?_
        refine lv_aload_n hx hb dL_law_666 rfl (lv_at hl 0 rfl) ?_
        refine lv_iload_n hx hb dL_law_667 rfl (lv_at hl 3 rfl) ?_
        refine lv_iconst (v := 2) hx hb dL_law_668 (by decide) ?_
        refine lv_iadd hx hb dL_law_669 ?_
        refine va_sld hx hb hX hbl hbA hc.2.2 ix2 dL_law_670 ?_
        refine lw_call Cc hAc (rest := []) (st1 := [.int v]) hc (As := [.int (xs (nI (5 * k) + 1).toNatClampNeg), .int (xs (nI (5 * k) + 2).toNatClampNeg)]) (o := some (.int v)) (τ := σ1) (c_X6_item (l := l) kz (res := (v, σ1)) q1) kz (by decide) (ci := 6) rfl (cwV 2 hts (bz_gVL wd_32_14 wd_32_15 wd_32_16 wd_1_2 wd_32_17) rfl rfl rfl (by decide +kernel) ⟨Nat.le_of_ble_eq_true rfl, Nat.le_of_ble_eq_true rfl⟩) rfl hl.1 rfl (Nat.le_of_ble_eq_true rfl) ⟨Nat.le_of_ble_eq_true rfl, Nat.le_of_ble_eq_true rfl⟩ dL_law_671 rfl (fun H hN hz1 hq => ?_)
        have hc := hN
        have hm := holdM τ _ _ hm hz1 hq
        refine lv_aload_n hx hb dL_law_674 rfl (lv_at hl 2 rfl) ?_
        refine lv_aload_n hx hb dL_law_675 rfl (lv_at hl 0 rfl) ?_
        refine lv_iload_n hx hb dL_law_676 rfl (lv_at hl 3 rfl) ?_
        refine lv_iconst (v := 1) hx hb dL_law_677 (by decide) ?_
        refine lv_iadd hx hb dL_law_678 ?_
        refine va_sld hx hb hX hbl hbA hc.2.2 ix1 dL_law_679 ?_
        refine lv_aload_n hx hb dL_law_680 rfl (lv_at hl 0 rfl) ?_
        refine lv_iload_n hx hb dL_law_681 rfl (lv_at hl 3 rfl) ?_
        refine lv_iconst (v := 2) hx hb dL_law_682 (by decide) ?_
        refine lv_iadd hx hb dL_law_683 ?_
        refine va_sld hx hb hX hbl hbA hc.2.2 ix2 dL_law_684 ?_
        refine lw_call Cm hAm (rest := [.int v]) (st1 := [.int v, .int v]) hm (As := [.int (xs (nI (5 * k) + 1).toNatClampNeg), .int (xs (nI (5 * k) + 2).toNatClampNeg)]) (o := some (.int v)) (τ := τ1) (c_X7_item (l := l) kmz (res := (v, τ1)) q2) kmz (by decide) (ci := 7) rfl (cwV 2 hts (bz_gVL wd_32_23 wd_33_0 wd_33_1 wd_1_5 wd_33_2) rfl rfl rfl (by decide +kernel) ⟨Nat.le_of_ble_eq_true rfl, Nat.le_of_ble_eq_true rfl⟩) rfl hl.1 rfl (Nat.le_of_ble_eq_true rfl) ⟨Nat.le_of_ble_eq_true rfl, Nat.le_of_ble_eq_true rfl⟩ dL_law_685 rfl (fun H hN hz1 hq => ?_)
        have hm := hN
        have hc := holdC σ1 _ _ hc hz1 hq
        refine lv_icmp_eq (tgt := 808) hx hb dL_law_688 (by decide) (fun _ => ?_) (fun c => absurd rfl c)
        exact go σ1 τ1 _ hR hc hm
      by_cases c21 : op = 21
      · refine lv_tableIn (tgt := 693) hx hb dL_law_32 (by rw [c21]; decide) (by rw [c21]; decide) (by rw [c21]; rfl) (by decide) ?_
        obtain ⟨v, σ1, τ1, q1, q2, hR⟩ := sm_startHeat hrel hk5 (xs (nI (5 * k) + 1).toNatClampNeg)
        refine lv_aload_n hx hb dL_law_693 rfl (lv_at hl 1 rfl) ?_
        refine lv_aload_n hx hb dL_law_694 rfl (lv_at hl 0 rfl) ?_
        refine lv_iload_n hx hb dL_law_695 rfl (lv_at hl 3 rfl) ?_
        refine lv_iconst (v := 1) hx hb dL_law_696 (by decide) ?_
        refine lv_iadd hx hb dL_law_697 ?_
        refine va_sld hx hb hX hbl hbA hc.2.2 ix1 dL_law_698 ?_
        refine lw_call Cc hAc (rest := []) (st1 := [.int v]) hc (As := [.int (xs (nI (5 * k) + 1).toNatClampNeg)]) (o := some (.int v)) (τ := σ1) (c_X6_startHeat (l := l) kz (res := (v, σ1)) q1) kz (by decide) (ci := 6) rfl (cwV 1 hts (bz_gVL wd_33_3 wd_33_4 wd_33_5 wd_1_2 wd_33_6) rfl rfl rfl (by decide +kernel) ⟨Nat.le_of_ble_eq_true rfl, Nat.le_of_ble_eq_true rfl⟩) rfl hl.1 rfl (Nat.le_of_ble_eq_true rfl) ⟨Nat.le_of_ble_eq_true rfl, Nat.le_of_ble_eq_true rfl⟩ dL_law_699 rfl (fun H hN hz1 hq => ?_)
        have hc := hN
        have hm := holdM τ _ _ hm hz1 hq
        refine lv_aload_n hx hb dL_law_702 rfl (lv_at hl 2 rfl) ?_
        refine lv_aload_n hx hb dL_law_703 rfl (lv_at hl 0 rfl) ?_
        refine lv_iload_n hx hb dL_law_704 rfl (lv_at hl 3 rfl) ?_
        refine lv_iconst (v := 1) hx hb dL_law_705 (by decide) ?_
        refine lv_iadd hx hb dL_law_706 ?_
        refine va_sld hx hb hX hbl hbA hc.2.2 ix1 dL_law_707 ?_
        refine lw_call Cm hAm (rest := [.int v]) (st1 := [.int v, .int v]) hm (As := [.int (xs (nI (5 * k) + 1).toNatClampNeg)]) (o := some (.int v)) (τ := τ1) (c_X7_startHeat (l := l) kmz (res := (v, τ1)) q2) kmz (by decide) (ci := 7) rfl (cwV 1 hts (bz_gVL wd_33_8 wd_33_9 wd_33_10 wd_1_5 wd_33_11) rfl rfl rfl (by decide +kernel) ⟨Nat.le_of_ble_eq_true rfl, Nat.le_of_ble_eq_true rfl⟩) rfl hl.1 rfl (Nat.le_of_ble_eq_true rfl) ⟨Nat.le_of_ble_eq_true rfl, Nat.le_of_ble_eq_true rfl⟩ dL_law_708 rfl (fun H hN hz1 hq => ?_)
        have hm := hN
        have hc := holdC σ1 _ _ hc hz1 hq
        refine lv_icmp_eq (tgt := 808) hx hb dL_law_711 (by decide) (fun _ => ?_) (fun c => absurd rfl c)
        exact go σ1 τ1 _ hR hc hm
      by_cases c22 : op = 22
      · refine lv_tableIn (tgt := 716) hx hb dL_law_32 (by rw [c22]; decide) (by rw [c22]; decide) (by rw [c22]; rfl) (by decide) ?_
        obtain ⟨v, σ1, τ1, q1, q2, hR⟩ := sm_coolTime hrel hk5 (xs (nI (5 * k) + 1).toNatClampNeg)
        refine lv_aload_n hx hb dL_law_716 rfl (lv_at hl 1 rfl) ?_
        refine lv_aload_n hx hb dL_law_717 rfl (lv_at hl 0 rfl) ?_
        refine lv_iload_n hx hb dL_law_718 rfl (lv_at hl 3 rfl) ?_
        refine lv_iconst (v := 1) hx hb dL_law_719 (by decide) ?_
        refine lv_iadd hx hb dL_law_720 ?_
        refine va_sld hx hb hX hbl hbA hc.2.2 ix1 dL_law_721 ?_
        refine lw_call Cc hAc (rest := []) (st1 := [.int v]) hc (As := [.int (xs (nI (5 * k) + 1).toNatClampNeg)]) (o := some (.int v)) (τ := σ1) (c_X6_coolTime (l := l) kz (res := (v, σ1)) q1) kz (by decide) (ci := 6) rfl (cwV 1 hts (bz_gVL wd_33_12 wd_33_13 wd_33_14 wd_1_2 wd_33_15) rfl rfl rfl (by decide +kernel) ⟨Nat.le_of_ble_eq_true rfl, Nat.le_of_ble_eq_true rfl⟩) rfl hl.1 rfl (Nat.le_of_ble_eq_true rfl) ⟨Nat.le_of_ble_eq_true rfl, Nat.le_of_ble_eq_true rfl⟩ dL_law_722 rfl (fun H hN hz1 hq => ?_)
        have hc := hN
        have hm := holdM τ _ _ hm hz1 hq
        refine lv_aload_n hx hb dL_law_725 rfl (lv_at hl 2 rfl) ?_
        refine lv_aload_n hx hb dL_law_726 rfl (lv_at hl 0 rfl) ?_
        refine lv_iload_n hx hb dL_law_727 rfl (lv_at hl 3 rfl) ?_
        refine lv_iconst (v := 1) hx hb dL_law_728 (by decide) ?_
        refine lv_iadd hx hb dL_law_729 ?_
        refine va_sld hx hb hX hbl hbA hc.2.2 ix1 dL_law_730 ?_
        refine lw_call Cm hAm (rest := [.int v]) (st1 := [.int v, .int v]) hm (As := [.int (xs (nI (5 * k) + 1).toNatClampNeg)]) (o := some (.int v)) (τ := τ1) (c_X7_coolTime (l := l) kmz (res := (v, τ1)) q2) kmz (by decide) (ci := 7) rfl (cwV 1 hts (bz_gVL wd_33_17 wd_33_18 wd_33_19 wd_1_5 wd_33_20) rfl rfl rfl (by decide +kernel) ⟨Nat.le_of_ble_eq_true rfl, Nat.le_of_ble_eq_true rfl⟩) rfl hl.1 rfl (Nat.le_of_ble_eq_true rfl) ⟨Nat.le_of_ble_eq_true rfl, Nat.le_of_ble_eq_true rfl⟩ dL_law_731 rfl (fun H hN hz1 hq => ?_)
        have hm := hN
        have hc := holdC σ1 _ _ hc hz1 hq
        refine lv_icmp_eq (tgt := 808) hx hb dL_law_734 (by decide) (fun _ => ?_) (fun c => absurd rfl c)
        exact go σ1 τ1 _ hR hc hm
      by_cases c23 : op = 23
      · refine lv_tableIn (tgt := 739) hx hb dL_law_32 (by rw [c23]; decide) (by rw [c23]; decide) (by rw [c23]; rfl) (by decide) ?_
        obtain ⟨v, σ1, τ1, q1, q2, hR⟩ := sm_runTime hrel hk5 (xs (nI (5 * k) + 1).toNatClampNeg)
        refine lv_aload_n hx hb dL_law_739 rfl (lv_at hl 1 rfl) ?_
        refine lv_aload_n hx hb dL_law_740 rfl (lv_at hl 0 rfl) ?_
        refine lv_iload_n hx hb dL_law_741 rfl (lv_at hl 3 rfl) ?_
        refine lv_iconst (v := 1) hx hb dL_law_742 (by decide) ?_
        refine lv_iadd hx hb dL_law_743 ?_
        refine va_sld hx hb hX hbl hbA hc.2.2 ix1 dL_law_744 ?_
        refine lw_call Cc hAc (rest := []) (st1 := [.int v]) hc (As := [.int (xs (nI (5 * k) + 1).toNatClampNeg)]) (o := some (.int v)) (τ := σ1) (c_X6_runTime (l := l) kz (res := (v, σ1)) q1) kz (by decide) (ci := 6) rfl (cwV 1 hts (bz_gVL wd_33_21 wd_33_22 wd_33_23 wd_1_2 wd_34_0) rfl rfl rfl (by decide +kernel) ⟨Nat.le_of_ble_eq_true rfl, Nat.le_of_ble_eq_true rfl⟩) rfl hl.1 rfl (Nat.le_of_ble_eq_true rfl) ⟨Nat.le_of_ble_eq_true rfl, Nat.le_of_ble_eq_true rfl⟩ dL_law_745 rfl (fun H hN hz1 hq => ?_)
        have hc := hN
        have hm := holdM τ _ _ hm hz1 hq
        refine lv_aload_n hx hb dL_law_748 rfl (lv_at hl 2 rfl) ?_
        refine lv_aload_n hx hb dL_law_749 rfl (lv_at hl 0 rfl) ?_
        refine lv_iload_n hx hb dL_law_750 rfl (lv_at hl 3 rfl) ?_
        refine lv_iconst (v := 1) hx hb dL_law_751 (by decide) ?_
        refine lv_iadd hx hb dL_law_752 ?_
        refine va_sld hx hb hX hbl hbA hc.2.2 ix1 dL_law_753 ?_
        refine lw_call Cm hAm (rest := [.int v]) (st1 := [.int v, .int v]) hm (As := [.int (xs (nI (5 * k) + 1).toNatClampNeg)]) (o := some (.int v)) (τ := τ1) (c_X7_runTime (l := l) kmz (res := (v, τ1)) q2) kmz (by decide) (ci := 7) rfl (cwV 1 hts (bz_gVL wd_34_1 wd_34_2 wd_34_3 wd_1_5 wd_34_4) rfl rfl rfl (by decide +kernel) ⟨Nat.le_of_ble_eq_true rfl, Nat.le_of_ble_eq_true rfl⟩) rfl hl.1 rfl (Nat.le_of_ble_eq_true rfl) ⟨Nat.le_of_ble_eq_true rfl, Nat.le_of_ble_eq_true rfl⟩ dL_law_754 rfl (fun H hN hz1 hq => ?_)
        have hm := hN
        have hc := holdC σ1 _ _ hc hz1 hq
        refine lv_icmp_eq (tgt := 808) hx hb dL_law_757 (by decide) (fun _ => ?_) (fun c => absurd rfl c)
        exact go σ1 τ1 _ hR hc hm
      by_cases c24 : op = 24
      · refine lv_tableIn (tgt := 762) hx hb dL_law_32 (by rw [c24]; decide) (by rw [c24]; decide) (by rw [c24]; rfl) (by decide) ?_
        obtain ⟨v, σ1, τ1, q1, q2, hR⟩ := sm_longestRamp hrel hk5 (xs (nI (5 * k) + 1).toNatClampNeg)
        refine lv_aload_n hx hb dL_law_762 rfl (lv_at hl 1 rfl) ?_
        refine lv_aload_n hx hb dL_law_763 rfl (lv_at hl 0 rfl) ?_
        refine lv_iload_n hx hb dL_law_764 rfl (lv_at hl 3 rfl) ?_
        refine lv_iconst (v := 1) hx hb dL_law_765 (by decide) ?_
        refine lv_iadd hx hb dL_law_766 ?_
        refine va_sld hx hb hX hbl hbA hc.2.2 ix1 dL_law_767 ?_
        refine lw_call Cc hAc (rest := []) (st1 := [.int v]) hc (As := [.int (xs (nI (5 * k) + 1).toNatClampNeg)]) (o := some (.int v)) (τ := σ1) (c_X6_longestRamp (l := l) kz (res := (v, σ1)) q1) kz (by decide) (ci := 6) rfl (cwV 1 hts (bz_gVL wd_34_5 wd_34_6 wd_34_7 wd_1_2 wd_34_8) rfl rfl rfl (by decide +kernel) ⟨Nat.le_of_ble_eq_true rfl, Nat.le_of_ble_eq_true rfl⟩) rfl hl.1 rfl (Nat.le_of_ble_eq_true rfl) ⟨Nat.le_of_ble_eq_true rfl, Nat.le_of_ble_eq_true rfl⟩ dL_law_768 rfl (fun H hN hz1 hq => ?_)
        have hc := hN
        have hm := holdM τ _ _ hm hz1 hq
        refine lv_aload_n hx hb dL_law_771 rfl (lv_at hl 2 rfl) ?_
        refine lv_aload_n hx hb dL_law_772 rfl (lv_at hl 0 rfl) ?_
        refine lv_iload_n hx hb dL_law_773 rfl (lv_at hl 3 rfl) ?_
        refine lv_iconst (v := 1) hx hb dL_law_774 (by decide) ?_
        refine lv_iadd hx hb dL_law_775 ?_
        refine va_sld hx hb hX hbl hbA hc.2.2 ix1 dL_law_776 ?_
        refine lw_call Cm hAm (rest := [.int v]) (st1 := [.int v, .int v]) hm (As := [.int (xs (nI (5 * k) + 1).toNatClampNeg)]) (o := some (.int v)) (τ := τ1) (c_X7_longestRamp (l := l) kmz (res := (v, τ1)) q2) kmz (by decide) (ci := 7) rfl (cwV 1 hts (bz_gVL wd_34_11 wd_34_12 wd_34_13 wd_1_5 wd_34_14) rfl rfl rfl (by decide +kernel) ⟨Nat.le_of_ble_eq_true rfl, Nat.le_of_ble_eq_true rfl⟩) rfl hl.1 rfl (Nat.le_of_ble_eq_true rfl) ⟨Nat.le_of_ble_eq_true rfl, Nat.le_of_ble_eq_true rfl⟩ dL_law_777 rfl (fun H hN hz1 hq => ?_)
        have hm := hN
        have hc := holdC σ1 _ _ hc hz1 hq
        refine lv_icmp_eq (tgt := 808) hx hb dL_law_780 (by decide) (fun _ => ?_) (fun c => absurd rfl c)
        exact go σ1 τ1 _ hR hc hm
      by_cases c25 : op = 25
      · refine lv_tableIn (tgt := 785) hx hb dL_law_32 (by rw [c25]; decide) (by rw [c25]; decide) (by rw [c25]; rfl) (by decide) ?_
        obtain ⟨v, σ1, τ1, q1, q2, hR⟩ := sm_count hrel hk5 (xs (nI (5 * k) + 1).toNatClampNeg)
        refine lv_aload_n hx hb dL_law_785 rfl (lv_at hl 1 rfl) ?_
        refine lv_aload_n hx hb dL_law_786 rfl (lv_at hl 0 rfl) ?_
        refine lv_iload_n hx hb dL_law_787 rfl (lv_at hl 3 rfl) ?_
        refine lv_iconst (v := 1) hx hb dL_law_788 (by decide) ?_
        refine lv_iadd hx hb dL_law_789 ?_
        refine va_sld hx hb hX hbl hbA hc.2.2 ix1 dL_law_790 ?_
        refine lw_call Cc hAc (rest := []) (st1 := [.int v]) hc (As := [.int (xs (nI (5 * k) + 1).toNatClampNeg)]) (o := some (.int v)) (τ := σ1) (c_X6_count (l := l) kz (res := (v, σ1)) q1) kz (by decide) (ci := 6) rfl (cwV 1 hts (bz_gVL wd_34_15 wd_34_16 wd_34_17 wd_1_2 wd_34_18) rfl rfl rfl (by decide +kernel) ⟨Nat.le_of_ble_eq_true rfl, Nat.le_of_ble_eq_true rfl⟩) rfl hl.1 rfl (Nat.le_of_ble_eq_true rfl) ⟨Nat.le_of_ble_eq_true rfl, Nat.le_of_ble_eq_true rfl⟩ dL_law_791 rfl (fun H hN hz1 hq => ?_)
        have hc := hN
        have hm := holdM τ _ _ hm hz1 hq
        refine lv_aload_n hx hb dL_law_794 rfl (lv_at hl 2 rfl) ?_
        refine lv_aload_n hx hb dL_law_795 rfl (lv_at hl 0 rfl) ?_
        refine lv_iload_n hx hb dL_law_796 rfl (lv_at hl 3 rfl) ?_
        refine lv_iconst (v := 1) hx hb dL_law_797 (by decide) ?_
        refine lv_iadd hx hb dL_law_798 ?_
        refine va_sld hx hb hX hbl hbA hc.2.2 ix1 dL_law_799 ?_
        refine lw_call Cm hAm (rest := [.int v]) (st1 := [.int v, .int v]) hm (As := [.int (xs (nI (5 * k) + 1).toNatClampNeg)]) (o := some (.int v)) (τ := τ1) (c_X7_count (l := l) kmz (res := (v, τ1)) q2) kmz (by decide) (ci := 7) rfl (cwV 1 hts (bz_gVL wd_35_14 wd_35_15 wd_35_16 wd_1_5 wd_35_17) rfl rfl rfl (by decide +kernel) ⟨Nat.le_of_ble_eq_true rfl, Nat.le_of_ble_eq_true rfl⟩) rfl hl.1 rfl (Nat.le_of_ble_eq_true rfl) ⟨Nat.le_of_ble_eq_true rfl, Nat.le_of_ble_eq_true rfl⟩ dL_law_800 rfl (fun H hN hz1 hq => ?_)
        have hm := hN
        have hc := holdC σ1 _ _ hc hz1 hq
        refine lv_icmp_eq (tgt := 808) hx hb dL_law_803 (by decide) (fun _ => ?_) (fun c => absurd rfl c)
        exact go σ1 τ1 _ hR hc hm
      refine lv_tableOut (tgt := 808) hx hb dL_law_32 (bz_out26 c0 c1 c2 c3 c4 c5 c6 c7 c8 c9 c10 c11 c12 c13 c14 c15 c16 c17 c18 c19 c20 c21 c22 c23 c24 c25) (by decide) ?_
      exact go σ τ H (sm_idle hrel) hc hm
set_option maxHeartbeats 4000000 in
set_option maxRecDepth 100000 in
/-- THE LAW, from its entry -/
theorem whole_start {p : Program} {e : Env} {s : State} {m : MethodId} {below : List Frame} {meth : Method} {c : Code} (l : Launch) (hflags : l.flags = flags0) {b L : Nat} {xs : Nat → Int32} (hL : L ≤ 2560) (C0 : lw_At p s m meth c b L xs) : W p l e room_1 s m #[Value.ref b] below meth c s.heap [] 0 0 (lw_Z below #[Value.ref b] s) (entryFrame m ([Value.ref b] : List Value).toArray 4) := by
  obtain ⟨hx, hb, hr, hml, hown, hts0, hX, hbl, hlocks, hgv⟩ := id C0
  obtain ⟨D, cy, aK, aV, hF⟩ := lw_facts hts0 hgv
  obtain ⟨z, hz⟩ : ∃ z, z = s.heap.size := ⟨_, rfl⟩
  have hz0 : 0 < z := by omega
  have hAc : ∀ q, Ac_ z q → s.heap.size ≤ q := fun q h => by rw [← hz]; exact h.1
  have hAm : ∀ q, Am_ z q → s.heap.size ≤ q := fun q h => by rw [← hz]; exact Nat.le_trans (Nat.le_add_right z 173) h
  have hts : ∀ w ∈ wsL_law, w.before #[Value.ref b] s = true := fun w h => hts0 w (bz_B_in w h)
  obtain ⟨hKc, hSc⟩ := hF (kc_ z) (Ls_ z 173) (Ac_ z) (Gc_Z D cy aK aV hz0) hAc
  obtain ⟨hKm, hSm⟩ := hF (km_ z) (Ls_ (z + 173) 6) (Am_ z) (Gm_Z D cy aK aV hz0) hAm
  have Cc : bz_C p s m c #[Value.ref b] cL_law 4 RL wsL_law (Gc_ D cy aK aV z) := ⟨hx, hb, hml, hown, hts, hKc, hSc⟩
  have Cm : bz_C p s m c #[Value.ref b] cL_law 4 RL wsL_law (Gm_ D cy aK aV z) := ⟨hx, hb, hml, hown, hts, hKm, hSm⟩
  have hl := lv_entry ([.ref b]) (n := 4) (Nat.le_of_ble_eq_true rfl)
  rw [lg_entry_eq]
  generalize (lg_sl ([.ref b]) ++ List.replicate (4 - (lg_sl ([.ref b])).length) Slot.unset).toArray = ls at hl ⊢
  have hl : lv_has ls 4 [(0, .ref b)] := hl
  have hc : bz_HU (Gc_ D cy aK aV z) s (fun _ _ => 0, fun _ _ => 0) s.heap [] z := ⟨⟨fun a ha hlt => absurd ha (by
      show ¬ (kc_ z a).1 ≠ 0
      have : ¬ (z ≤ a ∧ a < z + 173) := by omega
      simp [kc_, this]), fun a _ => ⟨rfl, rfl⟩⟩, hz.symm, va_S.rf⟩
  have kz : kc_ z z = (7, 0) := by simp [kc_]; rfl
  have kmz : km_ z (z + 173) = (8, 0) := by simp [km_]
  have hB : ∀ j, j < 173 → bz_k (Gc_ D cy aK aV z) (z + j) = kB j := by
    intro j hj
    show kc_ z (z + j) = kB j
    have : z ≤ z + j ∧ z + j < z + 173 := by omega
    simp [kc_, this]
  refine lw_new Cc hAc hc (ci := 6) kz rfl (fun w h => bp_X6 w h) tyX6 tyX6_ok wd_1_0 wd_1_1 wd_1_2 (fs := [.null, .null, .null, .int 0, .null, .null, .null, .int 0]) rfl (fun j hj => by rcases (show j = 0 ∨ j = 1 ∨ j = 2 ∨ j = 3 ∨ j = 4 ∨ j = 5 ∨ j = 6 ∨ j = 7 by omega) with rfl | rfl | rfl | rfl | rfl | rfl | rfl | rfl <;> rfl) (Nat.le_of_ble_eq_true rfl) (Nat.le_of_ble_eq_true rfl) dL_law_0 (fun H hc o1 => ?_)
  refine lv_dup hx hb dL_law_3 rfl ?_
  refine lw_callI (rest := [.ref z]) Cc hAc hc (As := []) (c_X6_init (l := l) hB) (cwI 0 hts (bz_g0L wd_1_8) rfl rfl rfl (hts _ wd_1_2) (hts _ wd_1_6) (hts _ wd_1_7) rfl (by decide +kernel) ⟨Nat.le_of_ble_eq_true rfl, Nat.le_of_ble_eq_true rfl⟩) rfl hl.1 rfl (Nat.le_of_ble_eq_true rfl) ⟨Nat.le_of_ble_eq_true rfl, Nat.le_of_ble_eq_true rfl⟩ dL_law_4 (fun H1 hc o2 => ?_)
  have hc : bz_HU (Gc_ D cy aK aV z) s (ini_B (fun _ _ => 0, fun _ _ => 0) z) H1 [] (z + 173) := hc
  have hm : bz_HU (Gm_ D cy aK aV z) s (fun _ _ => 0, fun _ _ => 0) H1 [] (z + 173) := ⟨⟨fun a ha hlt => absurd (km_in ha).1 (by have := hc.2.1; omega), fun a _ => ⟨rfl, rfl⟩⟩, hc.2.1, hc.2.2.1, fun q g1 g2 => hc.2.2.2.1 q g1 (fun h => by have h : z ≤ q ∧ q < z + 173 := h; omega), fun _ h => by cases h⟩
  have hC : bz_H (Gc_ D cy aK aV z) s (ini_B (fun _ _ => 0, fun _ _ => 0) z) H1 [] := ⟨bz_V.of (z := z) (n := 173) rfl hc.1 (fun i hi => by
      show (kc_ z (z + i)).1 ≠ 0
      have : z ≤ z + i ∧ z + i < z + 173 := by omega
      simp only [kc_, if_pos this, Nat.add_sub_cancel_left]
      exact kB_ne i hi) (by rw [hc.2.1]; exact Nat.le_refl _), sm_Rc hz0, hc.2.2⟩
  refine lv_astore_n (lv' := [(1, .ref z), (0, .ref b)]) hx hb dL_law_7 rfl hl (by decide) rfl (fun ls hl => ?_)
  refine lw_new Cm hAm hm (ci := 7) kmz rfl (fun w h => bp_X7 w h) tyX7 tyX7_ok wd_1_3 wd_1_4 wd_1_5 (fs := [.null, .null, .int 0, .null, .int 0, .int 0, .int 0, .null, .int 0, .int 0, .null]) rfl (fun j hj => by rcases (show j = 0 ∨ j = 1 ∨ j = 2 ∨ j = 3 ∨ j = 4 ∨ j = 5 ∨ j = 6 ∨ j = 7 ∨ j = 8 ∨ j = 9 ∨ j = 10 by omega) with rfl | rfl | rfl | rfl | rfl | rfl | rfl | rfl | rfl | rfl | rfl <;> rfl) (Nat.le_of_ble_eq_true rfl) (Nat.le_of_ble_eq_true rfl) dL_law_8 (fun H2 hm o3 => ?_)
  have hC : bz_H (Gc_ D cy aK aV z) s (ini_B (fun _ _ => 0, fun _ _ => 0) z) H2 [] := ⟨bz_V.hold (z := z) (n := 173) rfl hC.1 (fun i hi hlt => o3 _ (by omega)), hC.2.1, hm.2.2.1, fun q g1 g2 => hm.2.2.2.1 q g1 (fun h => by have h : z + 173 ≤ q := h; omega), fun _ h => by cases h⟩
  refine lv_dup hx hb dL_law_11 rfl ?_
  refine lw_callI (rest := [.ref (z + 173)]) Cm hAm hm (As := []) (c_X7_init (l := l) (a0 := z + 173) kmz (by show km_ z (z + 173 + 1) = _; simp [km_]) (by show km_ z (z + 173 + 2) = _; simp [km_]) (by show km_ z (z + 173 + 3) = _; simp [km_]) (by show km_ z (z + 173 + 4) = _; simp [km_]) (by show km_ z (z + 173 + 5) = _; simp [km_])) (cwI 0 hts (bz_g0L wd_4_11) rfl rfl rfl (hts _ wd_1_5) (hts _ wd_4_9) (hts _ wd_4_10) rfl (by decide +kernel) ⟨Nat.le_of_ble_eq_true rfl, Nat.le_of_ble_eq_true rfl⟩) rfl hl.1 rfl (Nat.le_of_ble_eq_true rfl) ⟨Nat.le_of_ble_eq_true rfl, Nat.le_of_ble_eq_true rfl⟩ dL_law_12 (fun H3 hm o4 => ?_)
  have hC : bz_H (Gc_ D cy aK aV z) s (ini_B (fun _ _ => 0, fun _ _ => 0) z) H3 [] := ⟨bz_V.hold (z := z) (n := 173) rfl hC.1 (fun i hi hlt => o4 _ hlt (fun h => by have h : z + 173 ≤ z + i := h; omega)), hC.2.1, hm.2.2.1, fun q g1 g2 => hm.2.2.2.1 q g1 (fun h => by have h : z + 173 ≤ q := h; omega), fun _ h => by cases h⟩
  have hM : bz_H (Gm_ D cy aK aV z) s (ini_R (fun _ _ => 0, fun _ _ => 0) (z + 173)) H3 [] := ⟨bz_V.of (z := z + 173) (n := 6) rfl hm.1 (fun i hi => by
      show (km_ z (z + 173 + i)).1 ≠ 0
      rcases (show i = 0 ∨ i = 1 ∨ i = 2 ∨ i = 3 ∨ i = 4 ∨ i = 5 by omega) with rfl | rfl | rfl | rfl | rfl | rfl <;> simp [km_]) (by rw [hm.2.1]; omega), sm_Rm hz0, hm.2.2⟩
  refine lv_astore_n (lv' := [(2, .ref (z + 173)), (1, .ref z), (0, .ref b)]) hx hb dL_law_15 rfl hl (by decide) rfl (fun ls hl => ?_)
  refine lv_iconst (v := 0) hx hb dL_law_16 (by decide) ?_
  refine lv_istore_n (lv' := [(3, .int 0), (2, .ref (z + 173)), (1, .ref z), (0, .ref b)]) hx hb dL_law_17 rfl hl (by decide) rfl (fun ls hl => ?_)
  exact law_loop hL C0 hz Cc Cm 513 0 rfl _ _ H3 ls (sm_init z hz0) hC hM (Nat.zero_le _) (lv_sub hl [3, 2, 1, 0] rfl)
