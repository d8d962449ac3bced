/-! the script's cells (cell), and the one array that the law makes (sound) -/
def cellv (L : Nat) (xs : Nat → Int32) (k : Int32) : Int32 := if k < Int32.ofNat L then xs k.toNatClampNeg else 2330011 * k + 1087
def cell_P (b L : Nat) (xs : Nat → Int32) (U : State) : Prop := va_X b L xs U U.heap ∧ b < U.heap.size
theorem cell_in {L : Nat} {k : Int32} (hL : L < 2 ^ 31) (h0 : 0 ≤ k) (h1 : k < Int32.ofNat L) : vp_in k L := by
  intro h
  rw [Int32.le_iff_toInt_le] at h0
  rw [Int32.lt_iff_toInt_lt] at h1
  have e1 : (Int32.ofNat L).toInt = (L : Int) := nI_toInt hL
  rw [e1] at h1
  have h0 : (0 : Int) ≤ k.toInt := h0
  rcases h with h | h
  · rw [Int32.lt_iff_toInt_lt] at h
    have h : k.toInt < 0 := h
    omega
  · have e2 : k.toNatClampNeg = k.toInt.toNat := rfl
    omega
set_option maxHeartbeats 4000000 in
set_option maxRecDepth 100000 in
theorem c_L_cell {l : Launch} {b L : Nat} {xs : Nat → Int32} {k : Int32} (hL : L < 2 ^ 31) (h0 : 0 ≤ k) : Met l yL_cell wz_L_cell ({ frames := 0, cells := 0, slots := 0, locals := 0 }) (va_Pc [.ref b, .int k] (cell_P b L xs)) (fun _ st oc t => oc = .returned (some (.int (cellv L xs k))) ∧ t.heap = st.heap) 0 0 (fun _ => False) := by
  refine Met.ofW (cc := cL_cell) (maxL := 2) (ret := some .int) (by decide) rfl ?_
  intro p e s m args below meth c s₁ B hml hv
  obtain ⟨rfl, hX, hbl⟩ := hv
  have hts := atoms_spec (ws := wz_L_cell) B.pre
  have hown : s.vm.findClass RL = some m.cls := findClass_of_methodNamed B.named
  have hl0 := lv_entry [.ref b, .int k] (n := 2) (Nat.le_of_ble_eq_true rfl)
  have hx := B.exec
  have hb := B.bytes
  have hlocks := B.notSynchronized
  have hr := B.returns
  rw [lg_entry_eq]
  have body : ∀ ls : Array Slot, lv_has ls 2 [(0, .ref b), (1, .int k)] → W p l e ({ frames := 0, cells := 0, slots := 0, locals := 0 } : Room) s m [Value.ref b, .int k].toArray below meth c s.heap [] 0 0 (MQ below (fun _ st oc t => oc = .returned (some (.int (cellv L xs k))) ∧ t.heap = st.heap) [Value.ref b, .int k].toArray s 0 0 (fun _ => False)) (F0 m 0 ls []) := by
    intro ls hl
    refine lv_iload_n hx hb dL_cell_0 rfl (lv_at hl 1 rfl) ?_
    refine lv_aload_n hx hb dL_cell_1 rfl (lv_at hl 0 rfl) ?_
    refine va_slen (A := fun _ => False) hx hb hX hbl (fun h => h) va_S.rf dL_cell_2 ?_
    refine lv_icmp_ge (tgt := 12) hx hb dL_cell_3 (by decide) (fun c1 => ?_) (fun c1 => ?_)
    · have e : cellv L xs k = 2330011 * k + 1087 := by
        unfold cellv
        rw [if_neg (Int32.not_lt.mpr c1)]
      refine lv_ldc (v := 2330011) hx hb hown (hts _ (List.mem_cons_of_mem _ wd_20_16)) dL_cell_12 ?_
      refine lv_iload_n hx hb dL_cell_14 rfl (lv_at hl 1 rfl) ?_
      refine lv_imul hx hb dL_cell_15 ?_
      refine lv_sipush (v := 1087) hx hb dL_cell_16 (by decide) ?_
      refine lv_iadd hx hb dL_cell_19 ?_
      rw [← e]
      exact W.iret hx hb hr (fun t ht _ => ⟨rfl, ht⟩) (fun q h => by cases h) dL_cell_20 hlocks
    · have c2 : k < Int32.ofNat L := Int32.not_le.mp c1
      have e : cellv L xs k = xs k.toNatClampNeg := by
        unfold cellv
        rw [if_pos c2]
      refine lv_aload_n hx hb dL_cell_6 rfl (lv_at hl 0 rfl) ?_
      refine lv_iload_n hx hb dL_cell_7 rfl (lv_at hl 1 rfl) ?_
      refine va_sld (A := fun _ => False) hx hb hX hbl (fun h => h) va_S.rf (cell_in hL h0 c2) dL_cell_8 ?_
      refine lv_goto (tgt := 20) hx hb dL_cell_9 (by decide) ?_
      rw [← e]
      exact W.iret hx hb hr (fun t ht _ => ⟨rfl, ht⟩) (fun q h => by cases h) dL_cell_20 hlocks
  exact body _ hl0
def bz_Qs (G : bz_G) (σ : bz_W) (a0 : Nat) : Array Value → State → Outcome → State → Prop := fun _ st oc t => (∃ n v ρ, (n < a0 ∨ a0 + 172 < n) ∧ f_L_sound_b (bz_wb σ n (fun _ => 0)) a0 n = some (v, ρ) ∧ ρ.2 = σ.2 ∧ oc = .returned (some (.int v)) ∧ bz_Q G (bz_wb ρ n (σ.1 n)) t) ∧ va_F (bz_A G) st t
theorem wb_wb0 (σ : bz_W) (a : Nat) (f g : Nat → Int32) : bz_wb (bz_wb σ a f) a g = bz_wb σ a g := by
  refine Prod.ext ?_ rfl
  funext b
  by_cases h : b = a <;> simp [bz_wb, h]
theorem wb_id0 (σ : bz_W) (a : Nat) : bz_wb σ a (σ.1 a) = σ := by
  refine Prod.ext ?_ rfl
  funext b
  by_cases h : b = a <;> simp [bz_wb, h]
section OW
variable {p : Program} {l : Launch} {e : Env} {R : Room} {s : State} {m : MethodId} {args : Array Value} {below : List Frame} {meth : Method} {c : Code} {H : Heap} {locs : List Loc} {cells slots : Nat} {Q : State → Prop}
variable {cc : ByteArray} {nL pc : Nat} {ls : Array Slot} {rest : List Value} {own : String} {Ts : List Cond} {G : bz_G} {σ : bz_W}
theorem bz_callC (C : bz_C p s m c args cc nL own Ts G) (h : bz_H G s σ H locs) {b L : Nat} {xs : Nat → Int32} (hX : va_X b L xs s s.heap) (hbl : b < s.heap.size) (hbA : ¬ bz_A G b) (hL : L < 2 ^ 31) {k : Int32} (h0 : 0 ≤ k) {index : Nat} (cw : CallB R s args own index yL_cell cL_cell 2 (some .int) wz_L_cell ({ frames := 0, cells := 0, slots := 0, locals := 0 }) 0 0 2 ∧ (Cond.static yL_cell).before args s = true) (hls : ls.size = nL) (hW : (rest.map fun v => v.category).sum ≤ 8) (hf : cells ≤ R.cells ∧ slots ≤ R.slots) (hdg : decode cc pc = .ok (.invokestatic index, 3))
    (kk : ∀ (H1 : Heap) (locs1 : List Loc), bz_H G s σ H1 locs1 → W p l e R s m args below meth c H1 locs1 cells slots Q (F0 m (pc + 3) ls (.int (cellv L xs k) :: rest))) : W p l e R s m args below meth c H locs cells slots Q (F0 m pc ls (.int k :: .ref b :: rest)) := by
  have hb0 : FrameBlind (va_Pc [.ref b, .int k] (cell_P b L xs)) := by
    intro a U g mk q
    obtain ⟨e, h1, h2⟩ := q
    exact ⟨e, va_X.moved (u := U) (U := U.calling g mk a) (Vm.Alike.refl U.vm) h1, h2⟩
  have hr := va_runS (p := p) (e := e) (below := below) (meth := meth) (c := c) (H := H) (locs := locs) (cells := cells) (slots := slots) (g := F0 m pc ls (.int k :: .ref b :: rest)) (rest := rest) (As := [.ref b, .int k]) (S := ⟨C.1, C.2.1, C.2.2.1, C.2.2.2.1, C.2.2.2.2.1⟩) (c_L_cell (l := l) (xs := xs) hL h0) cw ⟨hb0, fun U hU hW => ⟨rfl, by rw [hU]; exact va_X.moved hW.alike (hX.kept (h.2.2.2.1 b hbl hbA)), by rw [hU]; exact Nat.lt_of_lt_of_le hbl h.2.2.1⟩⟩ rfl rfl hls rfl (by show 2 * 0 + _ ≤ 8; omega) hdg hf
  intro T hT X
  obtain ⟨v, st₀, t, T', L1, e0, X', hL1, e1, e2, ⟨hv, hq⟩, st⟩ := hr T hT X
  obtain rfl : v = some (.int (cellv L xs k)) := by cases hv; rfl
  have e3 : T'.heap = H := e1.trans (hq.trans e0)
  obtain ⟨t2, a1, b1⟩ := kk H (locs ++ L1) ⟨h.1, h.2.1, h.2.2.1, h.2.2.2.1, fun q hq => by
      rcases List.mem_append.mp hq with h' | h'
      · exact h.2.2.2.2 q h'
      · exact (hL1 q h').elim⟩ T' e3 X'
  exact ⟨t2, st t2 a1, b1⟩
theorem bz_callSd (C : bz_C p s m c args cc nL own Ts G) (h : bz_H G s σ H locs) {a0 : Nat} {fr lo index : Nat} (hM : Met l yL_sound wz_L_sound ({ frames := fr, cells := 1, slots := 8, locals := lo }) (va_Pc [.ref a0] (bz_P G σ)) (bz_Qs G σ a0) 1 8 (bz_A G)) (cw : CallB R s args own index yL_sound cL_sound 8 (some .boolean) wz_L_sound ({ frames := fr, cells := 1, slots := 8, locals := lo }) 1 8 1 ∧ (Cond.static yL_sound).before args s = true) (hls : ls.size = nL) (hW : (rest.map fun v => v.category).sum ≤ 8) (hf : cells + 1 ≤ R.cells ∧ slots + 8 ≤ R.slots) (hdg : decode cc pc = .ok (.invokestatic index, 3))
    (kk : ∀ (n : Nat) (v : Int32) (ρ : bz_W), (n < a0 ∨ a0 + 172 < n) → f_L_sound_b (bz_wb σ n (fun _ => 0)) a0 n = some (v, ρ) → ρ.2 = σ.2 → ∀ (H1 : Heap) (locs1 : List Loc), bz_H G s (bz_wb ρ n (σ.1 n)) H1 locs1 → W p l e R s m args below meth c H1 locs1 (cells + 1) (slots + 8) Q (F0 m (pc + 3) ls (.int v :: rest))) : W p l e R s m args below meth c H locs cells slots Q (F0 m pc ls (.ref a0 :: rest)) := by
  have hr := va_runS (p := p) (e := e) (below := below) (meth := meth) (c := c) (H := H) (locs := locs) (cells := cells) (slots := slots) (g := F0 m pc ls (.ref a0 :: rest)) (rest := rest) (As := [.ref a0]) (S := ⟨C.1, C.2.1, C.2.2.1, C.2.2.2.1, C.2.2.2.2.1⟩) hM cw ⟨bz_blind G σ _, bz_pre C h _⟩ rfl rfl hls rfl (by show 2 * 0 + _ ≤ 8; omega) hdg hf
  intro T hT X
  obtain ⟨v, st₀, t, T', L, h0, X', hL, e1, e2, ⟨⟨n, v2, ρ, hn, g1, g2, hv, hq⟩, hz, hk⟩, st⟩ := hr T hT X
  obtain rfl : v = some (.int v2) := by cases hv; rfl
  rw [h0] at hz hk
  have hS := h.2.2
  obtain ⟨t2, a1, b1⟩ := kk n v2 ρ hn g1 g2 T'.heap (locs ++ L) ⟨by unfold bz_V; rw [e1]; exact hq.1, hq.2, Nat.le_trans hS.1 (by rw [e1]; exact hz), fun q h1 h2 => by rw [e1, hk q (Nat.lt_of_lt_of_le h1 hS.1) h2]; exact hS.2.1 q h1 h2, fun q hq => by
      rcases List.mem_append.mp hq with h | h
      · exact hS.2.2 q h
      · exact hL q h⟩ T' rfl X'
  exact ⟨t2, st t2 a1, b1⟩
end OW
/-- the world with one more cell: a new array of 8 ints -/
abbrev bz_G1 (G : bz_G) (n : Nat) : bz_G := (G.1, bz_cy G, (fun a => if a = n then (9, 8) else bz_k G a), n :: bz_L G, bz_A G, bz_aK G, bz_aV G)
theorem bz_R1 {κ : Nat → Nat × Nat} {ρ : Nat → Nat → Nat} {n : Nat} (hn : (κ n).1 = 0) (h : bz_R κ ρ) : bz_R (fun a => if a = n then (9, 8) else κ a) ρ := by
  have un : ∀ (a : Nat) (K : Nat × Nat), K.1 ≠ 9 → (if a = n then (9, 8) else κ a) = K → κ a = K := by
    intro a K hK h1
    by_cases e : a = n
    · rw [if_pos e] at h1
      exact absurd (congrArg Prod.fst h1).symm hK
    · rw [if_neg e] at h1
      exact h1
  have ex : ∀ (a : Nat) (K : Nat × Nat), K.1 ≠ 0 → κ a = K → (if a = n then (9, 8) else κ a) = K := by
    intro a K hK h1
    by_cases e : a = n
    · subst e
      rw [h1] at hn
      exact absurd hn hK
    · rw [if_neg e]
      exact h1
  exact ⟨fun a ha => ex _ _ (by decide) (bz_R_0_0 h (un a _ (by decide) ha)), fun a ha => ex _ _ (by decide) (bz_R_0_1 h (un a _ (by decide) ha)), fun a ha => ex _ _ (by decide) (bz_R_0_2 h (un a _ (by decide) ha)), fun a ha => ex _ _ (by decide) (bz_R_1_0 h (un a _ (by decide) ha)), fun a ha => ex _ _ (by decide) (bz_R_2_1 h (un a _ (by decide) ha)), fun a ha => ex _ _ (by decide) (bz_R_3_0 h (un a _ (by decide) ha)), fun a ha => ex _ _ (by decide) (bz_R_3_1 h (un a _ (by decide) ha)), fun a ha => ex _ _ (by decide) (bz_R_3_2 h (un a _ (by decide) ha)), fun a ha => ex _ _ (by decide) (bz_R_4_0 h (un a _ (by decide) ha)), fun a ha => ex _ _ (by decide) (bz_R_4_1 h (un a _ (by decide) ha)), fun a ha => ex _ _ (by decide) (bz_R_4_2 h (un a _ (by decide) ha)), fun a ha => ex _ _ (by decide) (bz_R_4_3 h (un a _ (by decide) ha)), fun a ha => ex _ _ (by decide) (bz_R_5_0 h (un a _ (by decide) ha)), fun a ha => ex _ _ (by decide) (bz_R_6_0 h (un a _ (by decide) ha)), fun a ha => ex _ _ (by decide) (bz_R_6_1 h (un a _ (by decide) ha)), fun a ha => ex _ _ (by decide) (bz_R_6_2 h (un a _ (by decide) ha)), fun a ha => ex _ _ (by decide) (bz_R_6_4 h (un a _ (by decide) ha)), fun a ha => ex _ _ (by decide) (bz_R_6_5 h (un a _ (by decide) ha)), fun a ha => ex _ _ (by decide) (bz_R_6_6 h (un a _ (by decide) ha)), fun a k ha j hj => ex _ _ (by simp) (bz_R_m h (un a _ (by simp) ha) hj), fun a k ha j hj => ex _ _ (by simp) (bz_R_s h (un a _ (by simp) ha) hj)⟩
/-- what the law does behind sound: whichever address the array has -/
noncomputable def sb_ (a0 : Nat) (σ : bz_W) (K : Int32 → bz_W → Option (Int32 × bz_W)) : Option (Int32 × bz_W) :=
  @ite _ (∀ n : Nat, n < a0 ∨ a0 + 172 < n → ∃ v ρ τ, f_L_sound_b (bz_wb σ n (fun _ => 0)) a0 n = some (v, ρ) ∧ ρ.2 = σ.2 ∧ K v (bz_wb ρ n (σ.1 n)) = some (1, τ)) (Classical.propDecidable _) (some (1, σ)) none
theorem sb_u {a0 : Nat} {σ : bz_W} {K : Int32 → bz_W → Option (Int32 × bz_W)} {res : Int32 × bz_W} (h : sb_ a0 σ K = some res) : ∀ n : Nat, n < a0 ∨ a0 + 172 < n → ∃ v ρ τ, f_L_sound_b (bz_wb σ n (fun _ => 0)) a0 n = some (v, ρ) ∧ ρ.2 = σ.2 ∧ K v (bz_wb ρ n (σ.1 n)) = some (1, τ) := by
  unfold sb_ at h
  by_cases h1 : ∀ n : Nat, n < a0 ∨ a0 + 172 < n → ∃ v ρ τ, f_L_sound_b (bz_wb σ n (fun _ => 0)) a0 n = some (v, ρ) ∧ ρ.2 = σ.2 ∧ K v (bz_wb ρ n (σ.1 n)) = some (1, τ)
  · exact h1
  · rw [if_neg h1] at h
    cases h
theorem sb_i {a0 : Nat} {σ : bz_W} {K : Int32 → bz_W → Option (Int32 × bz_W)} (h : ∀ n : Nat, n < a0 ∨ a0 + 172 < n → ∃ v ρ τ, f_L_sound_b (bz_wb σ n (fun _ => 0)) a0 n = some (v, ρ) ∧ ρ.2 = σ.2 ∧ K v (bz_wb ρ n (σ.1 n)) = some (1, τ)) : sb_ a0 σ K = some (1, σ) := by
  unfold sb_
  rw [if_pos h]
set_option maxHeartbeats 4000000 in
set_option maxRecDepth 100000 in
theorem c_L_sound {l : Launch} {G : bz_G} {σ : bz_W} {a0 : Nat} (ka0 : bz_k G a0 = (7, 0)) (hUp : ∀ a q, bz_A G a → a ≤ q → bz_A G q) (hK : ∀ n, (bz_k G n).1 = 0 → n < a0 ∨ a0 + 172 < n) (hF : ∀ n : Nat, n < a0 ∨ a0 + 172 < n → ∃ v ρ, f_L_sound_b (bz_wb σ n (fun _ => 0)) a0 n = some (v, ρ) ∧ ρ.2 = σ.2) : Met l yL_sound wz_L_sound ({ frames := 5, cells := 1, slots := 8, locals := 119 }) (va_Pc [.ref a0] (bz_P G σ)) (bz_Qs G σ a0) 1 8 (bz_A G) := by
  refine Met.ofW (cc := cL_sound) (maxL := 8) (ret := some .boolean) (by decide) rfl ?_
  intro p e s m args below meth c s₁ B hml hv
  obtain ⟨rfl, h1, h2, h3, h4⟩ := hv
  have hts := atoms_spec (ws := wz_L_sound) B.pre
  have hown : s.vm.findClass RL = some m.cls := findClass_of_methodNamed B.named
  have hl0 := lv_entry [.ref a0] (n := 8) (Nat.le_of_ble_eq_true rfl)
  have hx := B.exec
  have hb := B.bytes
  rw [lg_entry_eq]
  have hZ := h1.2.2.2
  have hra : s.vm.findClass ("[" ++ FieldType.int.toString) = some (bz_cy G 0) := (h1.1.2 0 _ rfl).2
  -- all cells of the world lie in the heap
  have hlt : ∀ a, a ∈ bz_L G → a < s.heap.size := by
    intro a ha
    obtain ⟨i, hi⟩ := va_pl_get (X := []) (f := bz_F G σ) ha
    rw [List.nil_append] at hi
    exact (h3 i _ hi).lt
  obtain ⟨n, en⟩ : ∃ y, y = s.heap.size := ⟨_, rfl⟩
  have hnL : ¬ n ∈ bz_L G := fun hm => absurd (hlt n hm) (by rw [en]; exact Nat.lt_irrefl _)
  have hkn : (bz_k G n).1 = 0 := Decidable.byContradiction fun hne => hnL (hZ.2.1 n hne)
  have hAn : bz_A G n := by
    have ha0 : a0 ∈ bz_L G := hZ.2.1 a0 (by rw [ka0]; decide)
    obtain ⟨i, hi⟩ := va_pl_get (X := []) (f := bz_F G σ) ha0
    rw [List.nil_append] at hi
    exact hUp a0 n ((hZ.1 (bz_F G σ)).2 i _ hi) (by rw [en]; exact Nat.le_of_lt (hlt a0 ha0))
  obtain ⟨v, ρ, hB, hρ⟩ := hF n (hK n hkn)
  have body : ∀ ls : Array Slot, lv_has ls 8 [(0, .ref a0)] → W p l e ({ frames := 5, cells := 1, slots := 8, locals := 119 } : Room) s m [Value.ref a0].toArray below meth c s.heap [] 0 0 (MQ below (bz_Qs G σ a0) [Value.ref a0].toArray s 1 8 (bz_A G)) (F0 m 0 ls []) := by
    intro ls hl
    refine lv_bipush (v := 8) hx hb dL_sound_0 (by decide) ?_
    refine va_newaK (atype := .int) hx hb (hts _ (List.mem_cons_of_mem _ wd_2_2)) rfl dL_sound_2 rfl (N := 8) (by decide) (by decide) (by decide) (by decide) (by decide) en.symm fun H1 cA e1 z1 o1 hAr hNm => ?_
    refine lv_astore_n (lv' := [(1, .ref n), (0, .ref a0)]) hx hb dL_sound_4 rfl hl (by decide) rfl (fun ls hl => ?_)
    have e2 : cA = bz_cy G 0 := Option.some.inj (hNm.symm.trans hra)
    have C : bz_C p s m c [Value.ref a0].toArray cL_sound 8 RL wz_L_sound (bz_G1 G n) := by
      refine ⟨hx, hb, hml, hown, hts, ⟨h1.1, h1.2.1, h1.2.2.1, ?_, ?_, ?_⟩, h2⟩
      · intro f
        refine ⟨fun i j p q hi hj e => ?_, fun k q hk => ?_⟩
        · have key : ∀ (i : Nat) (q : Nat × va_E), (va_pl (n :: bz_L G) f)[i]? = some q → (i = 0 ∧ q.1 = n) ∨ ∃ i', i = i' + 1 ∧ (va_pl (bz_L G) f)[i']? = some q ∧ q.1 ∈ bz_L G := by
            intro i q hi
            match i, hi with
            | 0, hi => exact Or.inl ⟨rfl, by cases hi; rfl⟩
            | i + 1, hi =>
              refine Or.inr ⟨i, rfl, hi, ?_⟩
              obtain ⟨a, ha, ea⟩ := List.mem_map.mp (List.mem_of_getElem? (show (va_pl (bz_L G) f)[i]? = some q from hi))
              rw [← ea]
              exact ha
          rcases key i p hi with ⟨a1, a2⟩ | ⟨i', a1, a2, a3⟩ <;> rcases key j q hj with ⟨b1, b2⟩ | ⟨j', b1, b2, b3⟩
          · rw [a1, b1]
          · exact absurd (by rw [← a2, e]; exact b3) hnL
          · exact absurd (by rw [← b2, ← e]; exact a3) hnL
          · rw [a1, b1, (hZ.1 f).1 i' j' p q a2 b2 e]
        · match k, hk with
          | 0, hk => cases hk; exact hAn
          | k + 1, hk => exact (hZ.1 f).2 k q hk
      · intro a ha
        by_cases e : a = n
        · rw [e]
          exact List.mem_cons_self
        · refine List.mem_cons_of_mem _ (hZ.2.1 a ?_)
          intro h0
          apply ha
          show (if a = n then ((9 : Nat), (8 : Nat)) else bz_k G a).1 = 0
          rw [if_neg e]
          exact h0
      · show (if 0 = n then ((9 : Nat), (8 : Nat)) else bz_k G 0).1 = 0
        have : ¬ 0 = n := by
          have := hlt a0 (hZ.2.1 a0 (by rw [ka0]; decide))
          omega
        rw [if_neg this]
        exact hZ.2.2
    have hF0 : ∀ (τ : bz_W) (g : Nat → Int32) (a : Nat), a ∈ bz_L G → bz_F (bz_G1 G n) (bz_wb τ n g) a = bz_F G τ a := by
      intro τ g a ha
      have e : ¬ a = n := fun e => hnL (e ▸ ha)
      unfold bz_F
      show bz_cE (bz_cy G) (if a = n then ((9 : Nat), (8 : Nat)) else bz_k G a) (if a = n then g else τ.1 a) (τ.2 a) = _
      rw [if_neg e, if_neg e]
    have h : bz_H (bz_G1 G n) s (bz_wb σ n (fun _ => 0)) H1 [] := by
      refine ⟨fun k q hk => ?_, bz_R1 hkn h4, by rw [z1, ← en]; exact Nat.le_succ _, fun q g1 _ => o1 q (by rw [en]; exact g1), fun q hq => by cases hq⟩
      match k, hk with
      | 0, hk =>
        cases hk
        show va_at G.1 vwCl (n, bz_cE (bz_cy G) (if n = n then ((9 : Nat), (8 : Nat)) else bz_k G n) (if n = n then (fun _ => 0) else σ.1 n) (σ.2 n)) H1
        rw [if_pos rfl, if_pos rfl]
        show H1[n]? = some (vp_cell (bz_cy G 0) (8, .inl (fun _ => 0)))
        rw [e1, e2]
        rfl
      | k + 1, hk =>
        have hk : (va_pl (bz_L G) (bz_F (bz_G1 G n) (bz_wb σ n (fun _ => 0))))[k]? = some q := hk
        obtain ⟨a, ha, ea⟩ := List.mem_map.mp (List.mem_of_getElem? hk)
        have hk2 : (va_pl (bz_L G) (bz_F G σ))[k]? = some q := by
          rw [← hk]
          unfold va_pl
          rw [List.getElem?_map, List.getElem?_map]
          cases hq : (bz_L G)[k]? with
          | none => rfl
          | some a2 => exact congrArg (fun v => some (a2, v)) (hF0 σ _ a2 (List.mem_of_getElem? hq)).symm
        exact (h3 k q hk2).kept (o1 q.1 (by rw [← ea, en]; exact hlt a ha))
    have hW := cb_L_sound (l := l) (e := e) (below := below) (meth := meth) C B.notSynchronized B.returns (a0 := a0) (a1 := n) (by
        show (if a0 = n then ((9 : Nat), (8 : Nat)) else bz_k G a0) = (7, 0)
        have : ¬ a0 = n := fun e => by
          rw [← e, ka0] at hkn
          exact absurd hkn (by decide)
        rw [if_neg this]
        exact ka0) (by
        show (if n = n then ((9 : Nat), (8 : Nat)) else bz_k G n) = (9, 8)
        rw [if_pos rfl]) hB h hl
    intro T hT X
    obtain ⟨t, a1, o, b1, b2, b3, b4⟩ := hW T hT X
    refine ⟨t, a1, o, b1, b2, ⟨⟨n, v, ρ, hK n hkn, hB, hρ, b3.1.1, fun k q hk => ?_, by show bz_R (bz_k G) ρ.2; rw [hρ]; exact h4⟩, b3.2⟩, b4⟩
    have b5 := b3.1.2.1
    refine b5 (k + 1) q ?_
    show (va_pl (bz_L G) (bz_F (bz_G1 G n) ρ))[k]? = some q
    rw [← hk]
    have e9 : bz_wb (bz_wb ρ n (σ.1 n)) n (ρ.1 n) = ρ := by rw [wb_wb0, wb_id0]
    unfold va_pl
    rw [List.getElem?_map, List.getElem?_map]
    cases hq : (bz_L G)[k]? with
    | none => rfl
    | some a2 =>
      have e8 := hF0 (bz_wb ρ n (σ.1 n)) (ρ.1 n) a2 (List.mem_of_getElem? hq)
      rw [e9] at e8
      exact congrArg (fun v => some (a2, v)) e8
  exact body _ hl0
