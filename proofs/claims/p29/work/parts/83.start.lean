/-! the start: the object is made; then the law -/
def Ac_ (z q : Nat) : Prop := z ≤ q
theorem bz_g0L {c1 : Cond} (h5 : c1 ∈ wsL_law) : GoodIn wsL_law (c1 :: wsL_law) := by
  intro w hw
  have h : w ∈ wsL_law := by
    rcases List.mem_cons.mp hw with rfl | h <;> assumption
  exact ⟨h, bz_B_good w h⟩
def Ls_ (z n : Nat) : List Nat := (List.range n).map (fun i => z + i)
theorem Ls_at {z n i : Nat} {f : Nat → va_E} {q : Nat × va_E} (h : (va_pl (Ls_ z n) f)[i]? = some q) : i < n ∧ q = (z + i, f (z + i)) := by
  unfold va_pl Ls_ at h
  rw [List.getElem?_map, List.getElem?_map] at h
  by_cases hi : i < n
  · rw [List.getElem?_range hi] at h
    simp at h
    exact ⟨hi, h.symm⟩
  · rw [List.getElem?_eq_none (by simp; omega)] at h
    simp at h
theorem Ls_D (z n : Nat) (A : Nat → Prop) (hA : ∀ i, i < n → A (z + i)) (f : Nat → va_E) : va_D A (va_pl (Ls_ z n) f) := by
  refine ⟨fun i j p q hi hj e => ?_, fun k q hk => ?_⟩
  · have h1 := (Ls_at hi).2
    have h2 := (Ls_at hj).2
    rw [h1, h2] at e
    have e : z + i = z + j := e
    omega
  · rw [(Ls_at hk).2]
    exact hA k (Ls_at hk).1
theorem Ls_m {z n a : Nat} (h : z ≤ a ∧ a < z + n) : a ∈ Ls_ z n := List.mem_map.mpr ⟨a - z, List.mem_range.mpr (by omega), by omega⟩
theorem kB_ne : ∀ j, j < 173 → (kB j).1 ≠ 0 := by decide +kernel
abbrev Gc_ (D : va_G) (cy : Nat → ClassId) (aK aV : Nat → Nat) (z : Nat) : bz_G := (D, cy, kc_ z, Ls_ z 173, Ac_ z, aK, aV)
theorem Gc_Z (D : va_G) (cy : Nat → ClassId) (aK aV : Nat → Nat) {z : Nat} (hz : 0 < z) : bz_Z (Gc_ D cy aK aV z) := by
  refine ⟨Ls_D z 173 _ (fun i hi => by show z ≤ z + i; omega), fun a ha => ?_, ?_⟩
  · apply Ls_m
    by_cases h : z ≤ a ∧ a < z + 173
    · exact h
    · exact absurd (show (kc_ z a).1 = 0 by simp [kc_, h]) ha
  · show (kc_ z 0).1 = 0
    have h0 : ¬ (z ≤ 0 ∧ 0 < z + 173) := by omega
    simp only [kc_, if_neg h0]
theorem bz_V.of {G : bz_G} {σ : bz_W} {H : Heap} {z n : Nat} (hL : bz_L G = Ls_ z n) (h : bz_U G σ H) (hk : ∀ i, i < n → (bz_k G (z + i)).1 ≠ 0) (hs : z + n ≤ H.size) : bz_V G σ H := by
  intro k q hq
  rw [hL] at hq
  obtain ⟨h1, h2⟩ := Ls_at hq
  rw [h2]
  exact h.1 (z + k) (hk k h1) (by omega)
section LW
variable {p : Program} {l : Launch} {e : Env} {R : Room} {s : State} {m : MethodId} {args : Array Value} {below : List Frame} {meth : Method} {c : Code} {H : Heap} {cells slots : Nat} {Q : State → Prop}
variable {cc : ByteArray} {nL pc : Nat} {ls : Array Slot} {rest : List Value} {own : String} {Ts : List Cond} {G : bz_G} {σ : bz_W} {sz : Nat}
theorem lw_new (C : bz_C p s m c args cc nL own Ts G) (hA : ∀ q, bz_A G q → s.heap.size ≤ q) (h : bz_HU G s σ H [] sz) {ci N index : Nat} (hk : bz_k G sz = (ci + 1, 0)) {Cn : String} {T : u_T} (hc : vwCl[ci]? = some (Cn, T, N)) (hin : ∀ w ∈ u_ws Cn T N, w ∈ Ts) (ty : Nat → FieldType) (hty : ∀ k, k < N → parseFieldDescriptor (T k).2.2.1 = some (ty k)) (hcl : Cond.classLink own index Cn ∈ Ts) (hinst : Cond.instantiable Cn N ∈ Ts) (hini : Cond.initialized Cn ∈ Ts) {fs : List Value} (he : bz_cE (bz_cy G) (ci + 1, 0) (fun _ => 0) (fun _ => 0) = .inr (ci, fs)) (hfs : ∀ j, j < N → defaultValue (ty j) = vp_V fs j) (hcells : cells + 1 ≤ R.cells) (hslots : slots + N ≤ R.slots) (hdg : decode cc pc = .ok (.new index, 3))
    (kk : ∀ H1 : Heap, bz_HU G s σ H1 [] (sz + 1) → (∀ q, q < sz → H1[q]? = H[q]?) → W p l e R s m args below meth c H1 [] (cells + 1) (slots + N) Q (F0 m (pc + 3) ls (.ref sz :: rest))) : W p l e R s m args below meth c H [] cells slots Q (F0 m pc ls rest) := by
  obtain ⟨hx, hb, -, hown, hts, hK, -⟩ := C
  have hKn := hK.1.1 ci _ hc
  refine W.newcK hx hb hown (hts _ hcl) (hts _ hinst) (hts _ hini) rfl hdg hcells hslots hKn.2.1 h.2.1 fun H1 kC hkC e1 z1 o1 => kk H1 (h.grown z1 o1 fun _ => ?_) o1
  rw [hk, he]
  exact ⟨_, hc, (u_born ty hts hin hKn hkC e1 hty).to hfs⟩
theorem lw_callI (C : bz_C p s m c args cc nL own Ts G) (hA : ∀ q, bz_A G q → s.heap.size ≤ q) (h : bz_HU G s σ H [] sz) {y : MethodName} {ws : List Cond} {fr lo b n mc ms index maxL : Nat} {As : List Value} {τ : bz_W} {bytes : ByteArray} (hM : bz_MI l y ws fr lo mc ms G σ sz (.ref b :: As) τ) (cw : CallB R s args own index y bytes maxL none ws ({ frames := fr, cells := mc, slots := ms, locals := lo }) mc ms n ∧ y.name = "<init>" ∧ (Cond.instanceMethod y).before args s = true) (hn : As.length = n) (hls : ls.size = nL) {st0 : List Value} (hst : st0 = As.reverse ++ .ref b :: rest) (hW : (rest.map fun v => v.category).sum ≤ 8) (hf : cells + mc ≤ R.cells ∧ slots + ms ≤ R.slots) (hdg : decode cc pc = .ok (.invokespecial index, 3))
    (kk : ∀ H1 : Heap, bz_HU G s τ H1 [] (sz + mc) → (∀ q, q < H.size → ¬ bz_A G q → H1[q]? = H[q]?) → W p l e R s m args below meth c H1 [] (cells + mc) (slots + ms) Q (F0 m (pc + 3) ls rest)) : W p l e R s m args below meth c H [] cells slots Q (F0 m pc ls st0) := by
  have hr := va_runI (p := p) (e := e) (below := below) (meth := meth) (c := c) (H := H) (locs := []) (cells := cells) (slots := slots) (g := F0 m pc ls st0) (rest := rest) (S := ⟨C.1, C.2.1, C.2.2.1, C.2.2.2.1, C.2.2.2.2.1⟩) hM cw ⟨bz_blindI G σ sz _, fun U hU hW => ⟨rfl, by rw [hU]; exact h.2.1, bz_K.warm hW C.2.2.2.2.2.1, by rw [hU]; exact bz_S.moved hW.alike (bz_S.kept C.2.2.2.2.2.2 h.2.2.2.1), by rw [hU]; exact h.1⟩⟩ rfl hn hls hst (by show 2 * 0 + _ ≤ 8; omega) hdg hf
  intro T hT X
  obtain ⟨v, st₀, t, T', L, h0, X', hL, e1, e2, ⟨⟨hv, hz1, hq⟩, hz, hk⟩, st⟩ := hr T hT X
  obtain rfl : v = none := by cases hv; rfl
  rw [h0] at hz hk
  have hS := h.2.2
  have hS1 : va_S (bz_A G) s.heap T'.heap [] := ⟨Nat.le_trans hS.1 (by rw [e1]; exact hz), fun q h1 h2 => by rw [e1, hk q (Nat.lt_of_lt_of_le h1 hS.1) h2]; exact hS.2.1 q h1 h2, fun _ h => by cases h⟩
  obtain ⟨t2, a1, b1⟩ := va_forget (locs := [] ++ L) (fun q hq => hA _ (hL q (by simpa using hq))) (kk T'.heap ⟨by rw [e1]; exact hq, by rw [e1]; exact hz1, hS1⟩ (fun q h1 h2 => by rw [e1]; exact hk q h1 h2)) T' rfl X'
  exact ⟨t2, st t2 a1, b1⟩
end LW
set_option maxHeartbeats 8000000 in
set_option maxRecDepth 100000 in
theorem whole_start {p : Program} {e : Env} {s : State} {m : MethodId} {below : List Frame} {meth : Method} {c : Code} (l : Launch) (hflags : l.flags = flags0) {b L : Nat} {xs : Nat → Int32} (hL : L ≤ 260) (C0 : lw_At p s m meth c b L xs) : W p l e room_1 s m #[Value.ref b] below meth c s.heap [] 0 0 (lw_Z below #[Value.ref b] s) (entryFrame m ([Value.ref b] : List Value).toArray 12) := by
  obtain ⟨hx, hb, hr, hml, hown, hts0, hX, hbl, hlocks, hgv⟩ := id C0
  obtain ⟨D, cy, aK, aV, hF⟩ := lw_facts hts0 hgv
  obtain ⟨z, hz⟩ : ∃ z, z = s.heap.size := ⟨_, rfl⟩
  have hz0 : 0 < z := by omega
  have hAc : ∀ q, Ac_ z q → s.heap.size ≤ q := fun q h => by rw [← hz]; exact h
  have hts : ∀ w ∈ wz_L_law, w.before #[Value.ref b] s = true := fun w h => by
    rcases List.mem_cons.mp h with rfl | h
    · exact hts0 _ (bz_B_in _ wd_1_2)
    · exact hts0 w (bz_B_in w h)
  obtain ⟨hKc, hSc⟩ := hF (kc_ z) (Ls_ z 173) (Ac_ z) (Gc_Z D cy aK aV hz0) hAc
  have Cc : bz_C p s m c #[Value.ref b] cL_law 12 RL wz_L_law (Gc_ D cy aK aV z) := ⟨hx, hb, hml, hown, hts, hKc, hSc⟩
  have hl := lv_entry ([.ref b]) (n := 12) (Nat.le_of_ble_eq_true rfl)
  rw [lg_entry_eq]
  generalize (lg_sl ([.ref b]) ++ List.replicate (12 - (lg_sl ([.ref b])).length) Slot.unset).toArray = ls at hl ⊢
  have hl : lv_has ls 12 [(0, .ref b)] := hl
  have hc : bz_HU (Gc_ D cy aK aV z) s (fun _ _ => 0, fun _ _ => 0) s.heap [] z := ⟨⟨fun a ha hlt => absurd ha (by
      show ¬ (kc_ z a).1 ≠ 0
      have : ¬ (z ≤ a ∧ a < z + 173) := by omega
      simp [kc_, this]), fun a _ => ⟨rfl, rfl⟩⟩, hz.symm, va_S.rf⟩
  have kz : kc_ z z = (7, 0) := by simp [kc_]; rfl
  have hB : ∀ j, j < 173 → bz_k (Gc_ D cy aK aV z) (z + j) = kB j := by
    intro j hj
    show kc_ z (z + j) = kB j
    have : z ≤ z + j ∧ z + j < z + 173 := by omega
    simp [kc_, this]
  refine lw_new Cc hAc hc (ci := 6) kz rfl iz_X6 tyX6 tyX6_ok (List.mem_cons_of_mem _ wd_1_0) (List.mem_cons_of_mem _ wd_1_1) (List.mem_cons_of_mem _ wd_1_2) (fs := [.null, .null, .null, .int 0, .null, .null, .null, .int 0]) rfl (fun j hj => by rcases (show j = 0 ∨ j = 1 ∨ j = 2 ∨ j = 3 ∨ j = 4 ∨ j = 5 ∨ j = 6 ∨ j = 7 by omega) with rfl | rfl | rfl | rfl | rfl | rfl | rfl | rfl <;> rfl) (Nat.le_of_ble_eq_true rfl) (Nat.le_of_ble_eq_true rfl) dL_law_0 (fun H hc o1 => ?_)
  refine lv_dup hx hb dL_law_3 rfl ?_
  refine lw_callI (rest := [.ref z]) Cc hAc hc (As := []) (c_X6_init (l := l) hB) (cwI 0 hts (bz_g0 wd_1_5) rfl rfl rfl (hts _ (List.mem_cons_of_mem _ wd_1_2)) (hts _ (List.mem_cons_of_mem _ wd_1_3)) (hts _ (List.mem_cons_of_mem _ wd_1_4)) rfl (by decide +kernel) ⟨Nat.le_of_ble_eq_true rfl, Nat.le_of_ble_eq_true rfl⟩) rfl hl.1 rfl (Nat.le_of_ble_eq_true rfl) ⟨Nat.le_of_ble_eq_true rfl, Nat.le_of_ble_eq_true rfl⟩ dL_law_4 (fun H1 hc o2 => ?_)
  have hc : bz_HU (Gc_ D cy aK aV z) s (ini_B (fun _ _ => 0, fun _ _ => 0) z) H1 [] (z + 173) := hc
  have hC : bz_H (Gc_ D cy aK aV z) s (ini_B (fun _ _ => 0, fun _ _ => 0) z) H1 [] := ⟨bz_V.of (z := z) (n := 173) rfl hc.1 (fun i hi => by
      show (kc_ z (z + i)).1 ≠ 0
      have : z ≤ z + i ∧ z + i < z + 173 := by omega
      simp only [kc_, if_pos this, Nat.add_sub_cancel_left]
      exact kB_ne i hi) (by rw [hc.2.1]; exact Nat.le_refl _), sm_Rc hz0, hc.2.2⟩
  refine lv_astore_n (lv' := [(1, .ref z), (0, .ref b)]) hx hb dL_law_7 rfl hl (by decide) rfl (fun ls hl => ?_)
  obtain ⟨τ, hτ⟩ := law_true hz0 L xs
  exact cb_L_law Cc hlocks hr hAc (fun a q h1 h2 => Nat.le_trans (show z ≤ a from h1) h2) (a1 := z) (fun n hn => by
      by_cases h : z ≤ n ∧ n < z + 173
      · exfalso
        have hn : (kc_ z n).1 = 0 := hn
        simp only [kc_, if_pos h] at hn
        exact kB_ne (n - z) (by omega) hn
      · omega) hX hbl (fun h => by have h : z ≤ b := h; omega) (by omega) kz (res := (1, τ)) rfl ⟨by omega, by omega⟩ hτ hC hl
