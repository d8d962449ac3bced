set_option maxHeartbeats 4000000 in
set_option maxRecDepth 100000 in
theorem c_X4_left {l : Launch} {G : bz_G} {σ : bz_W} {a0 : Nat} (ka0 : bz_k G a0 = (5, 0)) {res : Int32 × bz_W} (hF : f_X4_left σ a0 = some res) : bz_M l yX4_left wz_X4_left 0 0 G σ [.ref a0] (some (.int res.1)) res.2 := by
  refine bz_mk (cc := cX4_left) (maxL := 1) (ret := (some .int)) (own := RX4) (by decide) rfl rfl (Nat.le_of_ble_eq_true rfl) ?_
  intro p e s m args below meth c ls C hlocks hr h hl
  have hx := C.1
  have hb := C.2.1
  have hts := C.2.2.2.2.1
  have hl : lv_has ls 1 [(0, .ref a0)] := hl
  obtain ⟨H, eH⟩ : ∃ y, y = s.heap := ⟨_, rfl⟩
  obtain ⟨locs, el⟩ : ∃ y : List Loc, y = [] := ⟨_, rfl⟩
  rw [← el, ← eH] at h ⊢
  unfold f_X4_left at hF
  refine lv_aload_n hx hb dX4_left_0 rfl (lv_at hl 0 rfl) ?_
  refine gf_4_4 C h ka0 iz_X4 (List.mem_cons_of_mem _ wd_6_2) dX4_left_1 ?_
  refine lv_aload_n hx hb dX4_left_4 rfl (lv_at hl 0 rfl) ?_
  refine gf_4_5 C h ka0 iz_X4 (List.mem_cons_of_mem _ wd_6_3) dX4_left_5 ?_
  refine lv_isub hx hb dX4_left_8 ?_
  exact bz_iret C h hlocks hr hF dX4_left_9
set_option maxHeartbeats 4000000 in
set_option maxRecDepth 100000 in
theorem L_X5_partEnd_L5 {p : Program} {l : Launch} {e : Env} {s : State} {m : MethodId} {args : Array Value} {below : List Frame} {meth : Method} {c : Code} {G : bz_G} (C : bz_C p s m c args cX5_partEnd 2 RX5 wz_X5_partEnd G) (hlocks : meth.locks = false) (hr : meth.sig.returnType = (some .int)) {a0 : Nat} (ka0 : bz_k G a0 = (6, 0)) {k : bz_W → Option (Int32 × bz_W)} {res : Int32 × bz_W} : ∀ (n : Nat) (v1 : Int32) (σ : bz_W) (H : Heap) (locs : List Loc) (ls : Array Slot), f_X5_partEnd_L5 a0 k n v1 σ = some res → bz_H G s σ H locs → lv_has ls 2 [(0, .ref a0), (1, .int v1)] → (∀ (σ : bz_W) (H : Heap) (locs : List Loc) (ls : Array Slot), k σ = some res → bz_H G s σ H locs → lv_has ls 2 [(0, .ref a0)] → W p l e ({ frames := 0, cells := 0, slots := 0, locals := 0 } : Room) s m args below meth c H locs 0 0 (MQ below (bz_Qc G (some (.int res.1)) res.2) args s 0 0 (bz_A G)) (F0 m 43 ls [])) → W p l e ({ frames := 0, cells := 0, slots := 0, locals := 0 } : Room) s m args below meth c H locs 0 0 (MQ below (bz_Qc G (some (.int res.1)) res.2) args s 0 0 (bz_A G)) (F0 m 5 ls []) := by
  have hx := C.1
  have hb := C.2.1
  have hts := C.2.2.2.2.1
  intro n
  induction n with
  | zero =>
    intro v1 σ H locs ls hF
    exact absurd hF (by simp [f_X5_partEnd_L5])
  | succ n ih =>
    intro v1 σ H locs ls hF h hl hk
    rw [f_X5_partEnd_L5] at hF
    refine lv_iload_n hx hb dX5_partEnd_5 rfl (lv_at hl 1 rfl) ?_
    refine lv_aload_n hx hb dX5_partEnd_6 rfl (lv_at hl 0 rfl) ?_
    refine gf_5_1 C h ka0 iz_X5 (List.mem_cons_of_mem _ wd_11_21) dX5_partEnd_7 ?_
    refine lv_icmp_ge (tgt := 43) hx hb dX5_partEnd_10 (by decide) (fun c2 => ?_) (fun c2 => ?_)
    · have hF := it_t hF c2
      exact hk _ H locs ls hF h (lv_sub hl [0] rfl)
    · have hF := it_f hF c2
      refine lv_aload_n hx hb dX5_partEnd_13 rfl (lv_at hl 0 rfl) ?_
      refine gf_5_0 C h ka0 iz_X5 (List.mem_cons_of_mem _ wd_4_4) dX5_partEnd_14 (fun k3 => ?_)
      refine lv_iload_n hx hb dX5_partEnd_17 rfl (lv_at hl 1 rfl) ?_
      obtain ⟨c4, hF⟩ := ck_u hF
      refine bz_cald C h k3 c4 (kx := v1.toNatClampNeg) rfl dX5_partEnd_18 ?_
      refine lv_bipush (v := 32) hx hb dX5_partEnd_19 (by decide) ?_
      refine lv_icmp_eq (tgt := 35) hx hb dX5_partEnd_21 (by decide) (fun c5 => ?_) (fun c5 => ?_)
      · have hF := it_t hF c5
        refine lv_iload_n hx hb dX5_partEnd_35 rfl (lv_at hl 1 rfl) ?_
        exact bz_iret C h hlocks hr hF dX5_partEnd_36
      · have hF := it_f hF c5
        refine lv_aload_n hx hb dX5_partEnd_24 rfl (lv_at hl 0 rfl) ?_
        refine gf_5_0 C h ka0 iz_X5 (List.mem_cons_of_mem _ wd_4_4) dX5_partEnd_25 (fun k6 => ?_)
        refine lv_iload_n hx hb dX5_partEnd_28 rfl (lv_at hl 1 rfl) ?_
        obtain ⟨c7, hF⟩ := ck_u hF
        refine bz_cald C h k6 c7 (kx := v1.toNatClampNeg) rfl dX5_partEnd_29 ?_
        refine lv_bipush (v := 59) hx hb dX5_partEnd_30 (by decide) ?_
        refine lv_icmp_ne (tgt := 37) hx hb dX5_partEnd_32 (by decide) (fun c8 => ?_) (fun c8 => ?_)
        · have hF := it_f hF c8
          obtain ⟨x9, ex9⟩ : ∃ y : Int32, y = v1 + 1 := ⟨_, rfl⟩
          have hF := lt_u hF x9 ex9
          refine lv_iinc (v := x9) (lv' := [(1, .int x9), (0, .ref a0)]) hx hb dX5_partEnd_37 hl (k := 1) rfl (by rw [ex9]; rfl) (by decide) rfl (fun ls hl => ?_)
          refine lv_goto (tgt := 5) hx hb dX5_partEnd_40 (by decide) ?_
          exact ih _ _ H locs ls hF h (lv_sub hl [1, 0] rfl) hk
        · have hF := it_t hF c8
          refine lv_iload_n hx hb dX5_partEnd_35 rfl (lv_at hl 1 rfl) ?_
          exact bz_iret C h hlocks hr hF dX5_partEnd_36
set_option maxHeartbeats 4000000 in
set_option maxRecDepth 100000 in
theorem c_X5_partEnd {l : Launch} {G : bz_G} {σ : bz_W} {a0 : Nat} (ka0 : bz_k G a0 = (6, 0)) {res : Int32 × bz_W} (hF : f_X5_partEnd σ a0 = some res) : bz_M l yX5_partEnd wz_X5_partEnd 0 0 G σ [.ref a0] (some (.int res.1)) res.2 := by
  refine bz_mk (cc := cX5_partEnd) (maxL := 2) (ret := (some .int)) (own := RX5) (by decide) rfl rfl (Nat.le_of_ble_eq_true rfl) ?_
  intro p e s m args below meth c ls C hlocks hr h hl
  have hx := C.1
  have hb := C.2.1
  have hts := C.2.2.2.2.1
  have hl : lv_has ls 2 [(0, .ref a0)] := hl
  obtain ⟨H, eH⟩ : ∃ y, y = s.heap := ⟨_, rfl⟩
  obtain ⟨locs, el⟩ : ∃ y : List Loc, y = [] := ⟨_, rfl⟩
  rw [← el, ← eH] at h ⊢
  unfold f_X5_partEnd at hF
  refine lv_aload_n hx hb dX5_partEnd_0 rfl (lv_at hl 0 rfl) ?_
  refine gf_5_2 C h ka0 iz_X5 (List.mem_cons_of_mem _ wd_11_19) dX5_partEnd_1 ?_
  refine lv_topi (fun x1 ex1 => ?_)
  have hF := lt_u hF x1 ex1
  refine lv_istore_n (lv' := [(1, .int x1), (0, .ref a0)]) hx hb dX5_partEnd_4 rfl hl (by decide) rfl (fun ls hl => ?_)
  refine L_X5_partEnd_L5 C hlocks hr ka0 _ _ _ H locs ls hF h (lv_sub hl [1, 0] rfl) ?_
  intro σ10 H locs ls hF h hl
  refine lv_aload_n hx hb dX5_partEnd_43 rfl (lv_at hl 0 rfl) ?_
  refine gf_5_1 C h ka0 iz_X5 (List.mem_cons_of_mem _ wd_11_21) dX5_partEnd_44 ?_
  exact bz_iret C h hlocks hr hF dX5_partEnd_47
set_option maxHeartbeats 4000000 in
set_option maxRecDepth 100000 in
theorem c_X6_isOutside {l : Launch} {G : bz_G} {σ : bz_W} {x0_ : Int32} {x1_ : Int32} {x2_ : Int32}  {res : Int32 × bz_W} (hF : f_X6_isOutside σ x0_ x1_ x2_ = some res) : bz_M l yX6_isOutside wz_X6_isOutside 0 0 G σ [.int x0_, .int x1_, .int x2_] (some (.int res.1)) res.2 := by
  refine bz_mk (cc := cX6_isOutside) (maxL := 3) (ret := (some .boolean)) (own := RX6) (by decide) rfl rfl (Nat.le_of_ble_eq_true rfl) ?_
  intro p e s m args below meth c ls C hlocks hr h hl
  have hx := C.1
  have hb := C.2.1
  have hts := C.2.2.2.2.1
  have hl : lv_has ls 3 [(0, .int x0_), (1, .int x1_), (2, .int x2_)] := hl
  obtain ⟨H, eH⟩ : ∃ y, y = s.heap := ⟨_, rfl⟩
  obtain ⟨locs, el⟩ : ∃ y : List Loc, y = [] := ⟨_, rfl⟩
  rw [← el, ← eH] at h ⊢
  unfold f_X6_isOutside at hF
  refine lv_iload_n hx hb dX6_isOutside_0 rfl (lv_at hl 0 rfl) ?_
  refine lv_iload_n hx hb dX6_isOutside_1 rfl (lv_at hl 1 rfl) ?_
  refine lv_icmp_lt (tgt := 10) hx hb dX6_isOutside_2 (by decide) (fun c1 => ?_) (fun c1 => ?_)
  · have hF := it_t hF c1
    refine lv_iconst (v := 1) hx hb dX6_isOutside_10 (by decide) ?_
    refine lv_goto (tgt := 15) hx hb dX6_isOutside_11 (by decide) ?_
    exact bz_zret C h hlocks hr (by decide) hF dX6_isOutside_15
  · have hF := it_f hF c1
    refine lv_iload_n hx hb dX6_isOutside_5 rfl (lv_at hl 0 rfl) ?_
    refine lv_iload_n hx hb dX6_isOutside_6 rfl (lv_at hl 2 rfl) ?_
    refine lv_icmp_le (tgt := 14) hx hb dX6_isOutside_7 (by decide) (fun c2 => ?_) (fun c2 => ?_)
    · have hF := it_t hF c2
      refine lv_iconst (v := 0) hx hb dX6_isOutside_14 (by decide) ?_
      exact bz_zret C h hlocks hr (by decide) hF dX6_isOutside_15
    · have hF := it_f hF c2
      refine lv_iconst (v := 1) hx hb dX6_isOutside_10 (by decide) ?_
      refine lv_goto (tgt := 15) hx hb dX6_isOutside_11 (by decide) ?_
      exact bz_zret C h hlocks hr (by decide) hF dX6_isOutside_15
set_option maxHeartbeats 4000000 in
set_option maxRecDepth 100000 in
theorem L_X5_readTime_L50 {p : Program} {l : Launch} {e : Env} {s : State} {m : MethodId} {args : Array Value} {below : List Frame} {meth : Method} {c : Code} {G : bz_G} (C : bz_C p s m c args cX5_readTime 5 RX5 wz_X5_readTime G) (hlocks : meth.locks = false) (hr : meth.sig.returnType = (some .boolean)) {a0 : Nat} {a1 : Int32} (ka0 : bz_k G a0 = (6, 0)) {k : Int32 → bz_W → Option (Int32 × bz_W)} {res : Int32 × bz_W} : ∀ (n : Nat) (v3 : Int32) (v4 : Int32) (σ : bz_W) (H : Heap) (locs : List Loc) (ls : Array Slot), f_X5_readTime_L50 a0 a1 k n v3 v4 σ = some res → bz_H G s σ H locs → lv_has ls 5 [(0, .ref a0), (1, .int a1), (3, .int v3), (4, .int v4)] → (∀ (w3 : Int32) (σ : bz_W) (H : Heap) (locs : List Loc) (ls : Array Slot), k w3 σ = some res → bz_H G s σ H locs → lv_has ls 5 [(0, .ref a0), (1, .int a1), (3, .int w3)] → W p l e ({ frames := 1, cells := 0, slots := 0, locals := 22 } : Room) s m args below meth c H locs 0 0 (MQ below (bz_Qc G (some (.int res.1)) res.2) args s 0 0 (bz_A G)) (F0 m 97 ls [])) → W p l e ({ frames := 1, cells := 0, slots := 0, locals := 22 } : Room) s m args below meth c H locs 0 0 (MQ below (bz_Qc G (some (.int res.1)) res.2) args s 0 0 (bz_A G)) (F0 m 50 ls []) := by
  have hx := C.1
  have hb := C.2.1
  have hts := C.2.2.2.2.1
  intro n
  induction n with
  | zero =>
    intro v3 v4 σ H locs ls hF
    exact absurd hF (by simp [f_X5_readTime_L50])
  | succ n ih =>
    intro v3 v4 σ H locs ls hF h hl hk
    rw [f_X5_readTime_L50] at hF
    refine lv_iload hx hb dX5_readTime_50 (lv_at hl 3 rfl) ?_
    refine lv_iload_n hx hb dX5_readTime_52 rfl (lv_at hl 1 rfl) ?_
    refine lv_icmp_ge (tgt := 97) hx hb dX5_readTime_53 (by decide) (fun c10 => ?_) (fun c10 => ?_)
    · have hF := it_t hF c10
      exact hk _ _ H locs ls hF h (lv_sub hl [0, 1, 2] rfl)
    · have hF := it_f hF c10
      refine lv_aload_n hx hb dX5_readTime_56 rfl (lv_at hl 0 rfl) ?_
      refine gf_5_0 C h ka0 iz_X5 (List.mem_cons_of_mem _ wd_4_4) dX5_readTime_57 (fun k11 => ?_)
      refine lv_iload hx hb dX5_readTime_60 (lv_at hl 3 rfl) ?_
      obtain ⟨c12, hF⟩ := ck_u hF
      refine bz_cald C h k11 c12 (kx := v4.toNatClampNeg) rfl dX5_readTime_62 ?_
      refine lv_bipush (v := 48) hx hb dX5_readTime_63 (by decide) ?_
      refine lv_bipush (v := 57) hx hb dX5_readTime_65 (by decide) ?_
      obtain ⟨r13, σ14, qr13, hF⟩ := bd_u hF
      refine bz_callN (rest := []) (st1 := [.int r13]) C h (As := [.int (σ.1 (σ.2 a0 0) v4.toNatClampNeg), .int 48, .int 57]) (o := some (.int r13)) (τ := σ14) (c_X6_isOutside (l := l)  (res := (r13, σ14)) qr13) ⟨va_cnB 3 hts (bz_g0 wd_9_3) rfl rfl rfl (C.2.2.2.2.2.1.2.1.2.2.2.2.1) (hts _ (List.mem_cons_of_mem _ wd_1_2)) (by decide +kernel) ⟨Nat.le_of_ble_eq_true rfl, Nat.le_of_ble_eq_true rfl⟩, hts _ (List.mem_cons_of_mem _ wd_9_2), trivial⟩ rfl hl.1 rfl (by decide) ⟨Nat.le_of_ble_eq_true rfl, Nat.le_of_ble_eq_true rfl⟩ dX5_readTime_67 rfl (fun H locs h => ?_)
      refine lv_if_eq (tgt := 75) hx hb dX5_readTime_70 (by decide) (fun c15 => ?_) (fun c15 => ?_)
      · have hF := it_t hF c15
        refine lv_iload_n hx hb dX5_readTime_75 rfl (lv_at hl 2 rfl) ?_
        refine lv_bipush (v := 10) hx hb dX5_readTime_76 (by decide) ?_
        refine lv_imul hx hb dX5_readTime_78 ?_
        refine lv_aload_n hx hb dX5_readTime_79 rfl (lv_at hl 0 rfl) ?_
        refine gf_5_0 C h ka0 iz_X5 (List.mem_cons_of_mem _ wd_4_4) dX5_readTime_80 (fun k16 => ?_)
        refine lv_iload hx hb dX5_readTime_83 (lv_at hl 3 rfl) ?_
        obtain ⟨c17, hF⟩ := ck_u hF
        refine bz_cald C h k16 c17 (kx := v4.toNatClampNeg) rfl dX5_readTime_85 ?_
        refine lv_bipush (v := 48) hx hb dX5_readTime_86 (by decide) ?_
        refine lv_isub hx hb dX5_readTime_88 ?_
        refine lv_iadd hx hb dX5_readTime_89 ?_
        refine lv_topi (fun x18 ex18 => ?_)
        have hF := lt_u hF x18 ex18
        refine lv_istore_n (lv' := [(3, .int x18), (0, .ref a0), (1, .int a1), (4, .int v4)]) hx hb dX5_readTime_90 rfl hl (by decide) rfl (fun ls hl => ?_)
        obtain ⟨x19, ex19⟩ : ∃ y : Int32, y = v4 + 1 := ⟨_, rfl⟩
        have hF := lt_u hF x19 ex19
        refine lv_iinc (v := x19) (lv' := [(4, .int x19), (3, .int x18), (0, .ref a0), (1, .int a1)]) hx hb dX5_readTime_91 hl (k := 3) rfl (by rw [ex19]; rfl) (by decide) rfl (fun ls hl => ?_)
        refine lv_goto (tgt := 50) hx hb dX5_readTime_94 (by decide) ?_
        exact ih _ _ _ H locs ls hF h (lv_sub hl [2, 3, 1, 0] rfl) hk
      · have hF := it_f hF c15
        refine lv_iconst (v := 0) hx hb dX5_readTime_73 (by decide) ?_
        exact bz_zret C h hlocks hr (by decide) hF dX5_readTime_74
set_option maxHeartbeats 4000000 in
set_option maxRecDepth 100000 in
theorem c_X5_readTime {l : Launch} {G : bz_G} {σ : bz_W} {a0 : Nat} (ka0 : bz_k G a0 = (6, 0)) {res : Int32 × bz_W} (hF : f_X5_readTime σ a0 = some res) : bz_M l yX5_readTime wz_X5_readTime 1 22 G σ [.ref a0] (some (.int res.1)) res.2 := by
  refine bz_mk (cc := cX5_readTime) (maxL := 5) (ret := (some .boolean)) (own := RX5) (by decide) rfl rfl (Nat.le_of_ble_eq_true rfl) ?_
  intro p e s m args below meth c ls C hlocks hr h hl
  have hx := C.1
  have hb := C.2.1
  have hts := C.2.2.2.2.1
  have hl : lv_has ls 5 [(0, .ref a0)] := hl
  obtain ⟨H, eH⟩ : ∃ y, y = s.heap := ⟨_, rfl⟩
  obtain ⟨locs, el⟩ : ∃ y : List Loc, y = [] := ⟨_, rfl⟩
  rw [← el, ← eH] at h ⊢
  unfold f_X5_readTime at hF
  refine lv_aload_n hx hb dX5_readTime_0 rfl (lv_at hl 0 rfl) ?_
  obtain ⟨r1, σ2, qr1, hF⟩ := bd_u hF
  refine bz_callV (rest := []) (st1 := [.int r1]) C h (As := []) (o := some (.int r1)) (τ := σ2) (c_X5_partEnd (l := l) ka0 (res := (r1, σ2)) qr1) ka0 (by decide) (ci := 5) rfl (cwV 0 hts (bz_gV wd_12_13 wd_12_14 wd_12_15 wd_1_20 wd_12_16) rfl rfl rfl (by decide +kernel) ⟨Nat.le_of_ble_eq_true rfl, Nat.le_of_ble_eq_true rfl⟩) rfl hl.1 rfl (by decide) ⟨Nat.le_of_ble_eq_true rfl, Nat.le_of_ble_eq_true rfl⟩ dX5_readTime_1 rfl (fun H locs h => ?_)
  refine lv_istore_n (lv' := [(1, .int r1), (0, .ref a0)]) hx hb dX5_readTime_4 rfl hl (by decide) rfl (fun ls hl => ?_)
  refine lv_iload_n hx hb dX5_readTime_5 rfl (lv_at hl 0 rfl) ?_
  refine lv_aload_n hx hb dX5_readTime_6 rfl (lv_at hl 1 rfl) ?_
  refine gf_5_2 C h ka0 iz_X5 (List.mem_cons_of_mem _ wd_11_19) dX5_readTime_7 ?_
  refine lv_isub hx hb dX5_readTime_10 ?_
  refine lv_topi (fun x3 ex3 => ?_)
  have hF := lt_u hF x3 ex3
  refine lv_istore_n (lv' := [(2, .int x3), (1, .int r1), (0, .ref a0)]) hx hb dX5_readTime_11 rfl hl (by decide) rfl (fun ls hl => ?_)
  refine lv_iload_n hx hb dX5_readTime_12 rfl (lv_at hl 0 rfl) ?_
  refine lv_iconst (v := 1) hx hb dX5_readTime_13 (by decide) ?_
  refine lv_iconst (v := 4) hx hb dX5_readTime_14 (by decide) ?_
  obtain ⟨r4, σ5, qr4, hF⟩ := bd_u hF
  refine bz_callN (rest := []) (st1 := [.int r4]) C h (As := [.int x3, .int 1, .int 4]) (o := some (.int r4)) (τ := σ5) (c_X6_isOutside (l := l)  (res := (r4, σ5)) qr4) ⟨va_cnB 3 hts (bz_g0 wd_9_3) rfl rfl rfl (C.2.2.2.2.2.1.2.1.2.2.2.2.1) (hts _ (List.mem_cons_of_mem _ wd_1_2)) (by decide +kernel) ⟨Nat.le_of_ble_eq_true rfl, Nat.le_of_ble_eq_true rfl⟩, hts _ (List.mem_cons_of_mem _ wd_9_2), trivial⟩ rfl hl.1 rfl (by decide) ⟨Nat.le_of_ble_eq_true rfl, Nat.le_of_ble_eq_true rfl⟩ dX5_readTime_15 rfl (fun H locs h => ?_)
  refine lv_if_ne (tgt := 40) hx hb dX5_readTime_18 (by decide) (fun c6 => ?_) (fun c6 => ?_)
  · have hF := it_f hF c6
    refine lv_iconst (v := 0) hx hb dX5_readTime_40 (by decide) ?_
    exact bz_zret C h hlocks hr (by decide) hF dX5_readTime_41
  · have hF := it_t hF c6
    refine lv_iload_n hx hb dX5_readTime_21 rfl (lv_at hl 0 rfl) ?_
    refine lv_iconst (v := 1) hx hb dX5_readTime_22 (by decide) ?_
    obtain ⟨j8, ej8, hF⟩ := lt_j hF
    have hj8 : ∀ (σ7 : bz_W) (H : Heap) (locs : List Loc) (ls : Array Slot), j8 σ7 = some res → bz_H G s σ7 H locs → lv_has ls 5 [(0, .ref a0), (1, .int r1)] → W p l e ({ frames := 1, cells := 0, slots := 0, locals := 22 } : Room) s m args below meth c H locs 0 0 (MQ below (bz_Qc G (some (.int res.1)) res.2) args s 0 0 (bz_A G)) (F0 m 42 ls []) := by
        intro σ7 H locs ls hF h hl
        subst ej8
        refine lv_iconst (v := 0) hx hb dX5_readTime_42 (by decide) ?_
        refine lv_istore_n (lv' := [(3, .int 0), (0, .ref a0), (1, .int r1)]) hx hb dX5_readTime_43 rfl hl (by decide) rfl (fun ls hl => ?_)
        refine lv_aload_n hx hb dX5_readTime_44 rfl (lv_at hl 1 rfl) ?_
        refine gf_5_2 C h ka0 iz_X5 (List.mem_cons_of_mem _ wd_11_19) dX5_readTime_45 ?_
        refine lv_topi (fun x9 ex9 => ?_)
        have hF := lt_u hF x9 ex9
        refine lv_istore (lv' := [(4, .int x9), (3, .int 0), (0, .ref a0), (1, .int r1)]) hx hb dX5_readTime_48 hl (by decide) rfl (fun ls hl => ?_)
        refine L_X5_readTime_L50 C hlocks hr ka0 _ _ _ _ H locs ls hF h (lv_sub hl [2, 3, 1, 0] rfl) ?_
        intro x20 σ21 H locs ls hF h hl
        refine lv_iload_n hx hb dX5_readTime_97 rfl (lv_at hl 2 rfl) ?_
        refine lv_aload_n hx hb dX5_readTime_98 rfl (lv_at hl 0 rfl) ?_
        refine gf_5_3 C h ka0 iz_X5 (List.mem_cons_of_mem _ wd_11_20) dX5_readTime_99 ?_
        refine lv_icmp_ge (tgt := 107) hx hb dX5_readTime_102 (by decide) (fun c22 => ?_) (fun c22 => ?_)
        · have hF := it_t hF c22
          refine lv_aload_n hx hb dX5_readTime_107 rfl (lv_at hl 0 rfl) ?_
          refine lv_iload_n hx hb dX5_readTime_108 rfl (lv_at hl 2 rfl) ?_
          refine pf_5_3 C h ka0 iz_X5 (List.mem_cons_of_mem _ wd_11_20) dX5_readTime_109 (fun H locs h => ?_)
          obtain ⟨σ23, eσ23⟩ : ∃ y : bz_W, y = bz_wi σ21 a0 3 x20 := ⟨_, rfl⟩
          rw [← eσ23] at h
          have hF := lt_u hF σ23 eσ23
          refine lv_aload_n hx hb dX5_readTime_112 rfl (lv_at hl 0 rfl) ?_
          refine lv_iload_n hx hb dX5_readTime_113 rfl (lv_at hl 1 rfl) ?_
          refine pf_5_2 C h ka0 iz_X5 (List.mem_cons_of_mem _ wd_11_19) dX5_readTime_114 (fun H locs h => ?_)
          obtain ⟨σ24, eσ24⟩ : ∃ y : bz_W, y = bz_wi σ23 a0 2 r1 := ⟨_, rfl⟩
          rw [← eσ24] at h
          have hF := lt_u hF σ24 eσ24
          refine lv_iconst (v := 1) hx hb dX5_readTime_117 (by decide) ?_
          exact bz_zret C h hlocks hr (by decide) hF dX5_readTime_118
        · have hF := it_f hF c22
          refine lv_iconst (v := 0) hx hb dX5_readTime_105 (by decide) ?_
          exact bz_zret C h hlocks hr (by decide) hF dX5_readTime_106
    refine lv_icmp_le (tgt := 42) hx hb dX5_readTime_23 (by decide) (fun c25 => ?_) (fun c25 => ?_)
    · have hF := it_t hF c25
      exact hj8 _ H locs ls hF h (lv_sub hl [2, 1] rfl)
    · have hF := it_f hF c25
      refine lv_aload_n hx hb dX5_readTime_26 rfl (lv_at hl 2 rfl) ?_
      refine gf_5_0 C h ka0 iz_X5 (List.mem_cons_of_mem _ wd_4_4) dX5_readTime_27 (fun k26 => ?_)
      refine lv_aload_n hx hb dX5_readTime_30 rfl (lv_at hl 2 rfl) ?_
      refine gf_5_2 C h ka0 iz_X5 (List.mem_cons_of_mem _ wd_11_19) dX5_readTime_31 ?_
      obtain ⟨c27, hF⟩ := ck_u hF
      refine bz_cald C h k26 c27 (kx := ((σ5.1 a0 2) : Int32).toNatClampNeg) rfl dX5_readTime_34 ?_
      refine lv_bipush (v := 48) hx hb dX5_readTime_35 (by decide) ?_
      refine lv_icmp_ne (tgt := 42) hx hb dX5_readTime_37 (by decide) (fun c28 => ?_) (fun c28 => ?_)
      · have hF := it_f hF c28
        exact hj8 _ H locs ls hF h (lv_sub hl [2, 1] rfl)
      · have hF := it_t hF c28
        refine lv_iconst (v := 0) hx hb dX5_readTime_40 (by decide) ?_
        exact bz_zret C h hlocks hr (by decide) hF dX5_readTime_41
set_option maxHeartbeats 4000000 in
set_option maxRecDepth 100000 in
theorem c_X5_readBlank {l : Launch} {G : bz_G} {σ : bz_W} {a0 : Nat} (ka0 : bz_k G a0 = (6, 0)) {res : Int32 × bz_W} (hF : f_X5_readBlank σ a0 = some res) : bz_M l yX5_readBlank wz_X5_readBlank 0 0 G σ [.ref a0] (some (.int res.1)) res.2 := by
  refine bz_mk (cc := cX5_readBlank) (maxL := 1) (ret := (some .boolean)) (own := RX5) (by decide) rfl rfl (Nat.le_of_ble_eq_true rfl) ?_
  intro p e s m args below meth c ls C hlocks hr h hl
  have hx := C.1
  have hb := C.2.1
  have hts := C.2.2.2.2.1
  have hl : lv_has ls 1 [(0, .ref a0)] := hl
  obtain ⟨H, eH⟩ : ∃ y, y = s.heap := ⟨_, rfl⟩
  obtain ⟨locs, el⟩ : ∃ y : List Loc, y = [] := ⟨_, rfl⟩
  rw [← el, ← eH] at h ⊢
  unfold f_X5_readBlank at hF
  refine lv_aload_n hx hb dX5_readBlank_0 rfl (lv_at hl 0 rfl) ?_
  refine gf_5_2 C h ka0 iz_X5 (List.mem_cons_of_mem _ wd_11_19) dX5_readBlank_1 ?_
  refine lv_aload_n hx hb dX5_readBlank_4 rfl (lv_at hl 0 rfl) ?_
  refine gf_5_1 C h ka0 iz_X5 (List.mem_cons_of_mem _ wd_11_21) dX5_readBlank_5 ?_
  refine lv_icmp_ge (tgt := 25) hx hb dX5_readBlank_8 (by decide) (fun c1 => ?_) (fun c1 => ?_)
  · have hF := it_t hF c1
    refine lv_iconst (v := 0) hx hb dX5_readBlank_25 (by decide) ?_
    exact bz_zret C h hlocks hr (by decide) hF dX5_readBlank_26
  · have hF := it_f hF c1
    refine lv_aload_n hx hb dX5_readBlank_11 rfl (lv_at hl 0 rfl) ?_
    refine gf_5_0 C h ka0 iz_X5 (List.mem_cons_of_mem _ wd_4_4) dX5_readBlank_12 (fun k2 => ?_)
    refine lv_aload_n hx hb dX5_readBlank_15 rfl (lv_at hl 0 rfl) ?_
    refine gf_5_2 C h ka0 iz_X5 (List.mem_cons_of_mem _ wd_11_19) dX5_readBlank_16 ?_
    obtain ⟨c3, hF⟩ := ck_u hF
    refine bz_cald C h k2 c3 (kx := ((σ.1 a0 2) : Int32).toNatClampNeg) rfl dX5_readBlank_19 ?_
    refine lv_bipush (v := 32) hx hb dX5_readBlank_20 (by decide) ?_
    refine lv_icmp_eq (tgt := 27) hx hb dX5_readBlank_22 (by decide) (fun c4 => ?_) (fun c4 => ?_)
    · have hF := it_t hF c4
      refine lv_aload_n hx hb dX5_readBlank_27 rfl (lv_at hl 0 rfl) ?_
      refine lv_dup hx hb dX5_readBlank_28 rfl ?_
      refine gf_5_2 C h ka0 iz_X5 (List.mem_cons_of_mem _ wd_11_19) dX5_readBlank_29 ?_
      refine lv_iconst (v := 1) hx hb dX5_readBlank_32 (by decide) ?_
      refine lv_iadd hx hb dX5_readBlank_33 ?_
      refine pf_5_2 C h ka0 iz_X5 (List.mem_cons_of_mem _ wd_11_19) dX5_readBlank_34 (fun H locs h => ?_)
      obtain ⟨σ5, eσ5⟩ : ∃ y : bz_W, y = bz_wi σ a0 2 ((σ.1 a0 2) + 1) := ⟨_, rfl⟩
      rw [← eσ5] at h
      have hF := lt_u hF σ5 eσ5
      refine lv_iconst (v := 1) hx hb dX5_readBlank_37 (by decide) ?_
      exact bz_zret C h hlocks hr (by decide) hF dX5_readBlank_38
    · have hF := it_f hF c4
      refine lv_iconst (v := 0) hx hb dX5_readBlank_25 (by decide) ?_
      exact bz_zret C h hlocks hr (by decide) hF dX5_readBlank_26
set_option maxHeartbeats 4000000 in
set_option maxRecDepth 100000 in
theorem c_X5_wordOf {l : Launch} {G : bz_G} {σ : bz_W} {x0_ : Int32}  {res : Nat × bz_W} (hF : f_X5_wordOf σ x0_ = some res) : bz_M l yX5_wordOf wz_X5_wordOf 0 0 G σ [.int x0_] (some (.ref (bz_aK G res.1))) res.2 := by
  refine bz_mk (cc := cX5_wordOf) (maxL := 1) (ret := (some (.object "java/lang/String"))) (own := RX5) (by decide) rfl rfl (Nat.le_of_ble_eq_true rfl) ?_
  intro p e s m args below meth c ls C hlocks hr h hl
  have hx := C.1
  have hb := C.2.1
  have hts := C.2.2.2.2.1
  have hl : lv_has ls 1 [(0, .int x0_)] := hl
  obtain ⟨H, eH⟩ : ∃ y, y = s.heap := ⟨_, rfl⟩
  obtain ⟨locs, el⟩ : ∃ y : List Loc, y = [] := ⟨_, rfl⟩
  rw [← el, ← eH] at h ⊢
  unfold f_X5_wordOf at hF
  refine lv_iload_n hx hb dX5_wordOf_0 rfl (lv_at hl 0 rfl) ?_
  by_cases c1 : x0_ = 0
  · have hF := it_t hF c1
    refine lv_tableIn (tgt := 32) hx hb dX5_wordOf_1 (by rw [c1]; decide) (by rw [c1]; decide) (by rw [c1]; rfl) (by decide) ?_
    refine va_ldcS hx hb C.2.2.2.1 (C.2.2.2.2.2.1.2.2.1.1) dX5_wordOf_32 ?_
    exact bz_sret C h hlocks hr hF dX5_wordOf_34
  have hF := it_f hF c1
  by_cases c2 : x0_ = 1
  · have hF := it_t hF c2
    refine lv_tableIn (tgt := 35) hx hb dX5_wordOf_1 (by rw [c2]; decide) (by rw [c2]; decide) (by rw [c2]; rfl) (by decide) ?_
    refine va_ldcS hx hb C.2.2.2.1 (C.2.2.2.2.2.1.2.2.1.2.1) dX5_wordOf_35 ?_
    exact bz_sret C h hlocks hr hF dX5_wordOf_37
  have hF := it_f hF c2
  by_cases c3 : x0_ = 2
  · have hF := it_t hF c3
    refine lv_tableIn (tgt := 38) hx hb dX5_wordOf_1 (by rw [c3]; decide) (by rw [c3]; decide) (by rw [c3]; rfl) (by decide) ?_
    refine va_ldcS hx hb C.2.2.2.1 (C.2.2.2.2.2.1.2.2.1.2.2.1) dX5_wordOf_38 ?_
    exact bz_sret C h hlocks hr hF dX5_wordOf_40
  have hF := it_f hF c3
  by_cases c4 : x0_ = 3
  · have hF := it_t hF c4
    refine lv_tableIn (tgt := 41) hx hb dX5_wordOf_1 (by rw [c4]; decide) (by rw [c4]; decide) (by rw [c4]; rfl) (by decide) ?_
    refine va_ldcS hx hb C.2.2.2.1 (C.2.2.2.2.2.1.2.2.1.2.2.2.1) dX5_wordOf_41 ?_
    exact bz_sret C h hlocks hr hF dX5_wordOf_43
  have hF := it_f hF c4
  refine lv_tableOut (tgt := 44) hx hb dX5_wordOf_1 (bz_out4 c1 c2 c3 c4) (by decide) ?_
  refine va_ldcS hx hb C.2.2.2.1 (C.2.2.2.2.2.1.2.2.1.2.2.2.2) dX5_wordOf_44 ?_
  exact bz_sret C h hlocks hr hF dX5_wordOf_46
set_option maxHeartbeats 4000000 in
set_option maxRecDepth 100000 in
theorem L_X5_isPart_L17 {p : Program} {l : Launch} {e : Env} {s : State} {m : MethodId} {args : Array Value} {below : List Frame} {meth : Method} {c : Code} {G : bz_G} (C : bz_C p s m c args cX5_isPart 4 RX5 wz_X5_isPart G) (hlocks : meth.locks = false) (hr : meth.sig.returnType = (some .boolean)) {a0 : Nat} {a1 : Nat} (ka0 : bz_k G a0 = (6, 0)) (ka1 : a1 < 5) {k : bz_W → Option (Int32 × bz_W)} {res : Int32 × bz_W} : ∀ (n : Nat) (v3 : Int32) (σ : bz_W) (H : Heap) (locs : List Loc) (ls : Array Slot), f_X5_isPart_L17 a0 a1 k n v3 σ = some res → bz_H G s σ H locs → lv_has ls 4 [(0, .ref a0), (1, .ref (bz_aK G a1)), (3, .int v3)] → (∀ (σ : bz_W) (H : Heap) (locs : List Loc) (ls : Array Slot), k σ = some res → bz_H G s σ H locs → lv_has ls 4 [] → W p l e ({ frames := 5, cells := 0, slots := 0, locals := 121 } : Room) s m args below meth c H locs 0 0 (MQ below (bz_Qc G (some (.int res.1)) res.2) args s 0 0 (bz_A G)) (F0 m 52 ls [])) → W p l e ({ frames := 5, cells := 0, slots := 0, locals := 121 } : Room) s m args below meth c H locs 0 0 (MQ below (bz_Qc G (some (.int res.1)) res.2) args s 0 0 (bz_A G)) (F0 m 17 ls []) := by
  have hx := C.1
  have hb := C.2.1
  have hts := C.2.2.2.2.1
  intro n
  induction n with
  | zero =>
    intro v3 σ H locs ls hF
    exact absurd hF (by simp [f_X5_isPart_L17])
  | succ n ih =>
    intro v3 σ H locs ls hF h hl hk
    rw [f_X5_isPart_L17] at hF
    refine lv_iload_n hx hb dX5_isPart_17 rfl (lv_at hl 2 rfl) ?_
    refine lv_aload_n hx hb dX5_isPart_18 rfl (lv_at hl 1 rfl) ?_
    obtain ⟨r4, σ5, qr4, hF⟩ := bd_u hF
    refine bz_callT (rest := [.int v3]) (st1 := [.int r4, .int v3]) C h (As := []) (o := some (.int r4)) (τ := σ5) (i := a1) (c_J0_length_8abf5 (l := l) ka1 (res := (r4, σ5)) qr4) ka1 (cwV 0 hts (bz_gV wd_13_8 wd_13_9 wd_13_10 wd_13_11 wd_13_12) rfl rfl rfl (by decide +kernel) ⟨Nat.le_of_ble_eq_true rfl, Nat.le_of_ble_eq_true rfl⟩) rfl hl.1 rfl (Nat.le_of_ble_eq_true rfl) ⟨Nat.le_of_ble_eq_true rfl, Nat.le_of_ble_eq_true rfl⟩ dX5_isPart_19 rfl (fun H locs h => ?_)
    refine lv_icmp_ge (tgt := 52) hx hb dX5_isPart_22 (by decide) (fun c6 => ?_) (fun c6 => ?_)
    · have hF := it_t hF c6
      exact hk _ H locs ls hF h (lv_sub hl [] rfl)
    · have hF := it_f hF c6
      refine lv_aload_n hx hb dX5_isPart_25 rfl (lv_at hl 0 rfl) ?_
      refine gf_5_0 C h ka0 iz_X5 (List.mem_cons_of_mem _ wd_4_4) dX5_isPart_26 (fun k7 => ?_)
      refine lv_aload_n hx hb dX5_isPart_29 rfl (lv_at hl 0 rfl) ?_
      refine gf_5_2 C h ka0 iz_X5 (List.mem_cons_of_mem _ wd_11_19) dX5_isPart_30 ?_
      refine lv_iload_n hx hb dX5_isPart_33 rfl (lv_at hl 2 rfl) ?_
      refine lv_iadd hx hb dX5_isPart_34 ?_
      obtain ⟨c8, hF⟩ := ck_u hF
      refine bz_cald C h k7 c8 (kx := (((σ5.1 a0 2) + v3) : Int32).toNatClampNeg) rfl dX5_isPart_35 ?_
      refine lv_aload_n hx hb dX5_isPart_36 rfl (lv_at hl 1 rfl) ?_
      refine lv_iload_n hx hb dX5_isPart_37 rfl (lv_at hl 2 rfl) ?_
      obtain ⟨r9, σ10, qr9, hF⟩ := bd_u hF
      refine bz_callT (rest := [.int (σ5.1 (σ5.2 a0 0) (((σ5.1 a0 2) + v3) : Int32).toNatClampNeg)]) (st1 := [.int r9, .int (σ5.1 (σ5.2 a0 0) (((σ5.1 a0 2) + v3) : Int32).toNatClampNeg)]) C h (As := [.int v3]) (o := some (.int r9)) (τ := σ10) (i := a1) (c_J0_charAt_5068e (l := l) ka1 (res := (r9, σ10)) qr9) ka1 (cwV 1 hts (bz_gV wd_13_20 wd_13_21 wd_13_22 wd_13_11 wd_13_23) rfl rfl rfl (by decide +kernel) ⟨Nat.le_of_ble_eq_true rfl, Nat.le_of_ble_eq_true rfl⟩) rfl hl.1 rfl (Nat.le_of_ble_eq_true rfl) ⟨Nat.le_of_ble_eq_true rfl, Nat.le_of_ble_eq_true rfl⟩ dX5_isPart_38 rfl (fun H locs h => ?_)
      refine lv_icmp_eq (tgt := 46) hx hb dX5_isPart_41 (by decide) (fun c11 => ?_) (fun c11 => ?_)
      · have hF := it_t hF c11
        obtain ⟨x12, ex12⟩ : ∃ y : Int32, y = v3 + 1 := ⟨_, rfl⟩
        have hF := lt_u hF x12 ex12
        refine lv_iinc (v := x12) (lv' := [(3, .int x12), (0, .ref a0), (1, .ref (bz_aK G a1))]) hx hb dX5_isPart_46 hl (k := 2) rfl (by rw [ex12]; rfl) (by decide) rfl (fun ls hl => ?_)
        refine lv_goto (tgt := 17) hx hb dX5_isPart_49 (by decide) ?_
        exact ih _ _ H locs ls hF h (lv_sub hl [1, 2, 0] rfl) hk
      · have hF := it_f hF c11
        refine lv_iconst (v := 0) hx hb dX5_isPart_44 (by decide) ?_
        exact bz_zret C h hlocks hr (by decide) hF dX5_isPart_45
set_option maxHeartbeats 4000000 in
set_option maxRecDepth 100000 in
theorem c_X5_isPart {l : Launch} {G : bz_G} {σ : bz_W} {a0 : Nat} {a1 : Nat} {x2_ : Int32} (ka0 : bz_k G a0 = (6, 0)) (ka1 : a1 < 5) {res : Int32 × bz_W} (hF : f_X5_isPart σ a0 a1 x2_ = some res) : bz_M l yX5_isPart wz_X5_isPart 5 121 G σ [.ref a0, .ref (bz_aK G a1), .int x2_] (some (.int res.1)) res.2 := by
  refine bz_mk (cc := cX5_isPart) (maxL := 4) (ret := (some .boolean)) (own := RX5) (by decide) rfl rfl (Nat.le_of_ble_eq_true rfl) ?_
  intro p e s m args below meth c ls C hlocks hr h hl
  have hx := C.1
  have hb := C.2.1
  have hts := C.2.2.2.2.1
  have hl : lv_has ls 4 [(0, .ref a0), (1, .ref (bz_aK G a1)), (2, .int x2_)] := hl
  obtain ⟨H, eH⟩ : ∃ y, y = s.heap := ⟨_, rfl⟩
  obtain ⟨locs, el⟩ : ∃ y : List Loc, y = [] := ⟨_, rfl⟩
  rw [← el, ← eH] at h ⊢
  unfold f_X5_isPart at hF
  refine lv_aload_n hx hb dX5_isPart_0 rfl (lv_at hl 1 rfl) ?_
  obtain ⟨r1, σ2, qr1, hF⟩ := bd_u hF
  refine bz_callT (rest := []) (st1 := [.int r1]) C h (As := []) (o := some (.int r1)) (τ := σ2) (i := a1) (c_J0_length_8abf5 (l := l) ka1 (res := (r1, σ2)) qr1) ka1 (cwV 0 hts (bz_gV wd_13_8 wd_13_9 wd_13_10 wd_13_11 wd_13_12) rfl rfl rfl (by decide +kernel) ⟨Nat.le_of_ble_eq_true rfl, Nat.le_of_ble_eq_true rfl⟩) rfl hl.1 rfl (by decide) ⟨Nat.le_of_ble_eq_true rfl, Nat.le_of_ble_eq_true rfl⟩ dX5_isPart_1 rfl (fun H locs h => ?_)
  refine lv_iload_n hx hb dX5_isPart_4 rfl (lv_at hl 2 rfl) ?_
  refine lv_aload_n hx hb dX5_isPart_5 rfl (lv_at hl 0 rfl) ?_
  refine gf_5_2 C h ka0 iz_X5 (List.mem_cons_of_mem _ wd_11_19) dX5_isPart_6 ?_
  refine lv_isub hx hb dX5_isPart_9 ?_
  refine lv_icmp_eq (tgt := 15) hx hb dX5_isPart_10 (by decide) (fun c3 => ?_) (fun c3 => ?_)
  · have hF := it_t hF c3
    refine lv_iconst (v := 0) hx hb dX5_isPart_15 (by decide) ?_
    refine lv_istore_n (lv' := [(3, .int 0), (0, .ref a0), (1, .ref (bz_aK G a1)), (2, .int x2_)]) hx hb dX5_isPart_16 rfl hl (by decide) rfl (fun ls hl => ?_)
    refine L_X5_isPart_L17 C hlocks hr ka0 ka1 _ _ _ H locs ls hF h (lv_sub hl [1, 2, 0] rfl) ?_
    intro σ13 H locs ls hF h hl
    refine lv_iconst (v := 1) hx hb dX5_isPart_52 (by decide) ?_
    exact bz_zret C h hlocks hr (by decide) hF dX5_isPart_53
  · have hF := it_f hF c3
    refine lv_iconst (v := 0) hx hb dX5_isPart_13 (by decide) ?_
    exact bz_zret C h hlocks hr (by decide) hF dX5_isPart_14
set_option maxHeartbeats 4000000 in
set_option maxRecDepth 100000 in
theorem L_X5_readOrder_L7 {p : Program} {l : Launch} {e : Env} {s : State} {m : MethodId} {args : Array Value} {below : List Frame} {meth : Method} {c : Code} {G : bz_G} (C : bz_C p s m c args cX5_readOrder 3 RX5 wz_X5_readOrder G) (hlocks : meth.locks = false) (hr : meth.sig.returnType = (some .boolean)) {a0 : Nat} {a1 : Int32} (ka0 : bz_k G a0 = (6, 0)) {k : bz_W → Option (Int32 × bz_W)} {res : Int32 × bz_W} : ∀ (n : Nat) (v2 : Int32) (σ : bz_W) (H : Heap) (locs : List Loc) (ls : Array Slot), f_X5_readOrder_L7 a0 a1 k n v2 σ = some res → bz_H G s σ H locs → lv_has ls 3 [(0, .ref a0), (1, .int a1), (2, .int v2)] → (∀ (σ : bz_W) (H : Heap) (locs : List Loc) (ls : Array Slot), k σ = some res → bz_H G s σ H locs → lv_has ls 3 [] → W p l e ({ frames := 6, cells := 0, slots := 0, locals := 144 } : Room) s m args below meth c H locs 0 0 (MQ below (bz_Qc G (some (.int res.1)) res.2) args s 0 0 (bz_A G)) (F0 m 42 ls [])) → W p l e ({ frames := 6, cells := 0, slots := 0, locals := 144 } : Room) s m args below meth c H locs 0 0 (MQ below (bz_Qc G (some (.int res.1)) res.2) args s 0 0 (bz_A G)) (F0 m 7 ls []) := by
  have hx := C.1
  have hb := C.2.1
  have hts := C.2.2.2.2.1
  intro n
  induction n with
  | zero =>
    intro v2 σ H locs ls hF
    exact absurd hF (by simp [f_X5_readOrder_L7])
  | succ n ih =>
    intro v2 σ H locs ls hF h hl hk
    rw [f_X5_readOrder_L7] at hF
    refine lv_iload_n hx hb dX5_readOrder_7 rfl (lv_at hl 2 rfl) ?_
    refine lv_iconst (v := 5) hx hb dX5_readOrder_8 (by decide) ?_
    refine lv_icmp_ge (tgt := 42) hx hb dX5_readOrder_9 (by decide) (fun c3 => ?_) (fun c3 => ?_)
    · have hF := it_t hF c3
      exact hk _ H locs ls hF h (lv_sub hl [] rfl)
    · have hF := it_f hF c3
      refine lv_aload_n hx hb dX5_readOrder_12 rfl (lv_at hl 0 rfl) ?_
      refine lv_iload_n hx hb dX5_readOrder_13 rfl (lv_at hl 2 rfl) ?_
      obtain ⟨r4, σ5, qr4, hF⟩ := bd_u hF
      refine bz_callS (rest := [.ref a0]) (st1 := [.ref (bz_aK G r4), .ref a0]) C h (As := [.int v2]) (o := some (.ref (bz_aK G r4))) (τ := σ5) (c_X5_wordOf (l := l)  (res := (r4, σ5)) qr4) (va_cwS 1 hts (bz_gS wd_13_1 wd_13_2 wd_1_20 wd_13_3) rfl rfl rfl (by decide +kernel) ⟨Nat.le_of_ble_eq_true rfl, Nat.le_of_ble_eq_true rfl⟩) rfl hl.1 rfl (Nat.le_of_ble_eq_true rfl) ⟨Nat.le_of_ble_eq_true rfl, Nat.le_of_ble_eq_true rfl⟩ dX5_readOrder_14 rfl (fun H locs h => ?_)
      have kr4 := kd_X5_wordOf qr4
      refine lv_iload_n hx hb dX5_readOrder_17 rfl (lv_at hl 1 rfl) ?_
      obtain ⟨r6, σ7, qr6, hF⟩ := bd_u hF
      refine bz_callV (rest := []) (st1 := [.int r6]) C h (As := [.ref (bz_aK G r4), .int a1]) (o := some (.int r6)) (τ := σ7) (c_X5_isPart (l := l) ka0 kr4 (res := (r6, σ7)) qr6) ka0 (by decide) (ci := 5) rfl (cwV 2 hts (bz_gV wd_13_4 wd_13_5 wd_13_6 wd_1_20 wd_13_7) rfl rfl rfl (by decide +kernel) ⟨Nat.le_of_ble_eq_true rfl, Nat.le_of_ble_eq_true rfl⟩) rfl hl.1 rfl (by decide) ⟨Nat.le_of_ble_eq_true rfl, Nat.le_of_ble_eq_true rfl⟩ dX5_readOrder_18 rfl (fun H locs h => ?_)
      refine lv_if_eq (tgt := 36) hx hb dX5_readOrder_21 (by decide) (fun c8 => ?_) (fun c8 => ?_)
      · have hF := it_t hF c8
        obtain ⟨x9, ex9⟩ : ∃ y : Int32, y = v2 + 1 := ⟨_, rfl⟩
        have hF := lt_u hF x9 ex9
        refine lv_iinc (v := x9) (lv' := [(2, .int x9), (0, .ref a0), (1, .int a1)]) hx hb dX5_readOrder_36 hl (k := 2) rfl (by rw [ex9]; rfl) (by decide) rfl (fun ls hl => ?_)
        refine lv_goto (tgt := 7) hx hb dX5_readOrder_39 (by decide) ?_
        exact ih _ _ H locs ls hF h (lv_sub hl [1, 2, 0] rfl) hk
      · have hF := it_f hF c8
        refine lv_aload_n hx hb dX5_readOrder_24 rfl (lv_at hl 0 rfl) ?_
        refine lv_iload_n hx hb dX5_readOrder_25 rfl (lv_at hl 2 rfl) ?_
        refine pf_5_4 C h ka0 iz_X5 (List.mem_cons_of_mem _ wd_11_22) dX5_readOrder_26 (fun H locs h => ?_)
        obtain ⟨σ10, eσ10⟩ : ∃ y : bz_W, y = bz_wi σ7 a0 4 v2 := ⟨_, rfl⟩
        rw [← eσ10] at h
        have hF := lt_u hF σ10 eσ10
        refine lv_aload_n hx hb dX5_readOrder_29 rfl (lv_at hl 0 rfl) ?_
        refine lv_iload_n hx hb dX5_readOrder_30 rfl (lv_at hl 1 rfl) ?_
        refine pf_5_2 C h ka0 iz_X5 (List.mem_cons_of_mem _ wd_11_19) dX5_readOrder_31 (fun H locs h => ?_)
        obtain ⟨σ11, eσ11⟩ : ∃ y : bz_W, y = bz_wi σ10 a0 2 a1 := ⟨_, rfl⟩
        rw [← eσ11] at h
        have hF := lt_u hF σ11 eσ11
        refine lv_iconst (v := 1) hx hb dX5_readOrder_34 (by decide) ?_
        exact bz_zret C h hlocks hr (by decide) hF dX5_readOrder_35
set_option maxHeartbeats 4000000 in
set_option maxRecDepth 100000 in
theorem c_X5_readOrder {l : Launch} {G : bz_G} {σ : bz_W} {a0 : Nat} (ka0 : bz_k G a0 = (6, 0)) {res : Int32 × bz_W} (hF : f_X5_readOrder σ a0 = some res) : bz_M l yX5_readOrder wz_X5_readOrder 6 144 G σ [.ref a0] (some (.int res.1)) res.2 := by
  refine bz_mk (cc := cX5_readOrder) (maxL := 3) (ret := (some .boolean)) (own := RX5) (by decide) rfl rfl (Nat.le_of_ble_eq_true rfl) ?_
  intro p e s m args below meth c ls C hlocks hr h hl
  have hx := C.1
  have hb := C.2.1
  have hts := C.2.2.2.2.1
  have hl : lv_has ls 3 [(0, .ref a0)] := hl
  obtain ⟨H, eH⟩ : ∃ y, y = s.heap := ⟨_, rfl⟩
  obtain ⟨locs, el⟩ : ∃ y : List Loc, y = [] := ⟨_, rfl⟩
  rw [← el, ← eH] at h ⊢
  unfold f_X5_readOrder at hF
  refine lv_aload_n hx hb dX5_readOrder_0 rfl (lv_at hl 0 rfl) ?_
  obtain ⟨r1, σ2, qr1, hF⟩ := bd_u hF
  refine bz_callV (rest := []) (st1 := [.int r1]) C h (As := []) (o := some (.int r1)) (τ := σ2) (c_X5_partEnd (l := l) ka0 (res := (r1, σ2)) qr1) ka0 (by decide) (ci := 5) rfl (cwV 0 hts (bz_gV wd_12_13 wd_12_14 wd_12_15 wd_1_20 wd_12_16) rfl rfl rfl (by decide +kernel) ⟨Nat.le_of_ble_eq_true rfl, Nat.le_of_ble_eq_true rfl⟩) rfl hl.1 rfl (by decide) ⟨Nat.le_of_ble_eq_true rfl, Nat.le_of_ble_eq_true rfl⟩ dX5_readOrder_1 rfl (fun H locs h => ?_)
  refine lv_istore_n (lv' := [(1, .int r1), (0, .ref a0)]) hx hb dX5_readOrder_4 rfl hl (by decide) rfl (fun ls hl => ?_)
  refine lv_iconst (v := 0) hx hb dX5_readOrder_5 (by decide) ?_
  refine lv_istore_n (lv' := [(2, .int 0), (1, .int r1), (0, .ref a0)]) hx hb dX5_readOrder_6 rfl hl (by decide) rfl (fun ls hl => ?_)
  refine L_X5_readOrder_L7 C hlocks hr ka0 _ _ _ H locs ls hF h (lv_sub hl [2, 1, 0] rfl) ?_
  intro σ12 H locs ls hF h hl
  refine lv_iconst (v := 0) hx hb dX5_readOrder_42 (by decide) ?_
  exact bz_zret C h hlocks hr (by decide) hF dX5_readOrder_43
set_option maxHeartbeats 4000000 in
set_option maxRecDepth 100000 in
theorem c_X5_readDigit {l : Launch} {G : bz_G} {σ : bz_W} {a0 : Nat} {x1_ : Int32} (ka0 : bz_k G a0 = (6, 0)) {res : Int32 × bz_W} (hF : f_X5_readDigit σ a0 x1_ = some res) : bz_M l yX5_readDigit wz_X5_readDigit 1 22 G σ [.ref a0, .int x1_] (some (.int res.1)) res.2 := by
  refine bz_mk (cc := cX5_readDigit) (maxL := 4) (ret := (some .int)) (own := RX5) (by decide) rfl rfl (Nat.le_of_ble_eq_true rfl) ?_
  intro p e s m args below meth c ls C hlocks hr h hl
  have hx := C.1
  have hb := C.2.1
  have hts := C.2.2.2.2.1
  have hl : lv_has ls 4 [(0, .ref a0), (1, .int x1_)] := hl
  obtain ⟨H, eH⟩ : ∃ y, y = s.heap := ⟨_, rfl⟩
  obtain ⟨locs, el⟩ : ∃ y : List Loc, y = [] := ⟨_, rfl⟩
  rw [← el, ← eH] at h ⊢
  unfold f_X5_readDigit at hF
  refine lv_aload_n hx hb dX5_readDigit_0 rfl (lv_at hl 0 rfl) ?_
  obtain ⟨r1, σ2, qr1, hF⟩ := bd_u hF
  refine bz_callV (rest := []) (st1 := [.int r1]) C h (As := []) (o := some (.int r1)) (τ := σ2) (c_X5_partEnd (l := l) ka0 (res := (r1, σ2)) qr1) ka0 (by decide) (ci := 5) rfl (cwV 0 hts (bz_gV wd_12_13 wd_12_14 wd_12_15 wd_1_20 wd_12_16) rfl rfl rfl (by decide +kernel) ⟨Nat.le_of_ble_eq_true rfl, Nat.le_of_ble_eq_true rfl⟩) rfl hl.1 rfl (by decide) ⟨Nat.le_of_ble_eq_true rfl, Nat.le_of_ble_eq_true rfl⟩ dX5_readDigit_1 rfl (fun H locs h => ?_)
  refine lv_istore_n (lv' := [(2, .int r1), (0, .ref a0), (1, .int x1_)]) hx hb dX5_readDigit_4 rfl hl (by decide) rfl (fun ls hl => ?_)
  refine lv_iload_n hx hb dX5_readDigit_5 rfl (lv_at hl 0 rfl) ?_
  refine lv_aload_n hx hb dX5_readDigit_6 rfl (lv_at hl 1 rfl) ?_
  refine gf_5_2 C h ka0 iz_X5 (List.mem_cons_of_mem _ wd_11_19) dX5_readDigit_7 ?_
  refine lv_isub hx hb dX5_readDigit_10 ?_
  refine lv_iconst (v := 1) hx hb dX5_readDigit_11 (by decide) ?_
  refine lv_icmp_ne (tgt := 33) hx hb dX5_readDigit_12 (by decide) (fun c3 => ?_) (fun c3 => ?_)
  · have hF := it_f hF c3
    refine lv_bipush (v := (-4)) hx hb dX5_readDigit_33 (by decide) ?_
    exact bz_iret C h hlocks hr hF dX5_readDigit_35
  · have hF := it_t hF c3
    refine lv_aload_n hx hb dX5_readDigit_15 rfl (lv_at hl 1 rfl) ?_
    refine gf_5_0 C h ka0 iz_X5 (List.mem_cons_of_mem _ wd_4_4) dX5_readDigit_16 (fun k4 => ?_)
    refine lv_aload_n hx hb dX5_readDigit_19 rfl (lv_at hl 1 rfl) ?_
    refine gf_5_2 C h ka0 iz_X5 (List.mem_cons_of_mem _ wd_11_19) dX5_readDigit_20 ?_
    obtain ⟨c5, hF⟩ := ck_u hF
    refine bz_cald C h k4 c5 (kx := ((σ2.1 a0 2) : Int32).toNatClampNeg) rfl dX5_readDigit_23 ?_
    refine lv_bipush (v := 48) hx hb dX5_readDigit_24 (by decide) ?_
    refine lv_iload_n hx hb dX5_readDigit_26 rfl (lv_at hl 2 rfl) ?_
    obtain ⟨r6, σ7, qr6, hF⟩ := bd_u hF
    refine bz_callN (rest := []) (st1 := [.int r6]) C h (As := [.int (σ2.1 (σ2.2 a0 0) ((σ2.1 a0 2) : Int32).toNatClampNeg), .int 48, .int x1_]) (o := some (.int r6)) (τ := σ7) (c_X6_isOutside (l := l)  (res := (r6, σ7)) qr6) ⟨va_cnB 3 hts (bz_g0 wd_9_3) rfl rfl rfl (C.2.2.2.2.2.1.2.1.2.2.2.2.1) (hts _ (List.mem_cons_of_mem _ wd_1_2)) (by decide +kernel) ⟨Nat.le_of_ble_eq_true rfl, Nat.le_of_ble_eq_true rfl⟩, hts _ (List.mem_cons_of_mem _ wd_9_2), trivial⟩ rfl hl.1 rfl (by decide) ⟨Nat.le_of_ble_eq_true rfl, Nat.le_of_ble_eq_true rfl⟩ dX5_readDigit_27 rfl (fun H locs h => ?_)
    refine lv_if_eq (tgt := 36) hx hb dX5_readDigit_30 (by decide) (fun c8 => ?_) (fun c8 => ?_)
    · have hF := it_t hF c8
      refine lv_aload_n hx hb dX5_readDigit_36 rfl (lv_at hl 1 rfl) ?_
      refine gf_5_0 C h ka0 iz_X5 (List.mem_cons_of_mem _ wd_4_4) dX5_readDigit_37 (fun k9 => ?_)
      refine lv_aload_n hx hb dX5_readDigit_40 rfl (lv_at hl 1 rfl) ?_
      refine gf_5_2 C h ka0 iz_X5 (List.mem_cons_of_mem _ wd_11_19) dX5_readDigit_41 ?_
      obtain ⟨c10, hF⟩ := ck_u hF
      refine bz_cald C h k9 c10 (kx := ((σ7.1 a0 2) : Int32).toNatClampNeg) rfl dX5_readDigit_44 ?_
      refine lv_bipush (v := 48) hx hb dX5_readDigit_45 (by decide) ?_
      refine lv_isub hx hb dX5_readDigit_47 ?_
      refine lv_topi (fun x11 ex11 => ?_)
      have hF := lt_u hF x11 ex11
      refine lv_istore_n (lv' := [(3, .int x11), (2, .int r1), (0, .ref a0), (1, .int x1_)]) hx hb dX5_readDigit_48 rfl hl (by decide) rfl (fun ls hl => ?_)
      refine lv_aload_n hx hb dX5_readDigit_49 rfl (lv_at hl 2 rfl) ?_
      refine lv_iload_n hx hb dX5_readDigit_50 rfl (lv_at hl 1 rfl) ?_
      refine pf_5_2 C h ka0 iz_X5 (List.mem_cons_of_mem _ wd_11_19) dX5_readDigit_51 (fun H locs h => ?_)
      obtain ⟨σ12, eσ12⟩ : ∃ y : bz_W, y = bz_wi σ7 a0 2 r1 := ⟨_, rfl⟩
      rw [← eσ12] at h
      have hF := lt_u hF σ12 eσ12
      refine lv_iload_n hx hb dX5_readDigit_54 rfl (lv_at hl 0 rfl) ?_
      exact bz_iret C h hlocks hr hF dX5_readDigit_55
    · have hF := it_f hF c8
      refine lv_bipush (v := (-4)) hx hb dX5_readDigit_33 (by decide) ?_
      exact bz_iret C h hlocks hr hF dX5_readDigit_35
set_option maxHeartbeats 4000000 in
set_option maxRecDepth 100000 in
theorem c_X5_readNumbers {l : Launch} {G : bz_G} {σ : bz_W} {a0 : Nat} (ka0 : bz_k G a0 = (6, 0)) {res : Int32 × bz_W} (hF : f_X5_readNumbers σ a0 = some res) : bz_M l yX5_readNumbers wz_X5_readNumbers 2 45 G σ [.ref a0] (some (.int res.1)) res.2 := by
  refine bz_mk (cc := cX5_readNumbers) (maxL := 1) (ret := (some .boolean)) (own := RX5) (by decide) rfl rfl (Nat.le_of_ble_eq_true rfl) ?_
  intro p e s m args below meth c ls C hlocks hr h hl
  have hx := C.1
  have hb := C.2.1
  have hts := C.2.2.2.2.1
  have hl : lv_has ls 1 [(0, .ref a0)] := hl
  obtain ⟨H, eH⟩ : ∃ y, y = s.heap := ⟨_, rfl⟩
  obtain ⟨locs, el⟩ : ∃ y : List Loc, y = [] := ⟨_, rfl⟩
  rw [← el, ← eH] at h ⊢
  unfold f_X5_readNumbers at hF
  refine lv_aload_n hx hb dX5_readNumbers_0 rfl (lv_at hl 0 rfl) ?_
  refine lv_bipush (v := (-4)) hx hb dX5_readNumbers_1 (by decide) ?_
  refine pf_5_6 C h ka0 iz_X5 (List.mem_cons_of_mem _ wd_12_0) dX5_readNumbers_3 (fun H locs h => ?_)
  obtain ⟨σ1, eσ1⟩ : ∃ y : bz_W, y = bz_wi σ a0 6 (-4) := ⟨_, rfl⟩
  rw [← eσ1] at h
  have hF := lt_u hF σ1 eσ1
  refine lv_aload_n hx hb dX5_readNumbers_6 rfl (lv_at hl 0 rfl) ?_
  refine lv_aload_n hx hb dX5_readNumbers_7 rfl (lv_at hl 0 rfl) ?_
  refine lv_aload_n hx hb dX5_readNumbers_8 rfl (lv_at hl 0 rfl) ?_
  refine gf_5_4 C h ka0 iz_X5 (List.mem_cons_of_mem _ wd_11_22) dX5_readNumbers_9 ?_
  refine lv_iconst (v := 4) hx hb dX5_readNumbers_12 (by decide) ?_
  obtain ⟨j4, ej4, hF⟩ := lt_j hF
  have hj4 : ∀ (y2 : Int32) (σ3 : bz_W) (H : Heap) (locs : List Loc) (ls : Array Slot), j4 y2 σ3 = some res → bz_H G s σ3 H locs → lv_has ls 1 [(0, .ref a0)] → W p l e ({ frames := 2, cells := 0, slots := 0, locals := 45 } : Room) s m args below meth c H locs 0 0 (MQ below (bz_Qc G (some (.int res.1)) res.2) args s 0 0 (bz_A G)) (F0 m 23 ls [.int y2, .ref a0, .ref a0]) := by
      intro y2 σ3 H locs ls hF h hl
      subst ej4
      obtain ⟨r5, σ6, qr5, hF⟩ := bd_u hF
      refine bz_callV (rest := [.ref a0]) (st1 := [.int r5, .ref a0]) C h (As := [.int y2]) (o := some (.int r5)) (τ := σ6) (c_X5_readDigit (l := l) ka0 (res := (r5, σ6)) qr5) ka0 (by decide) (ci := 5) rfl (cwV 1 hts (bz_gV wd_15_13 wd_15_14 wd_15_15 wd_1_20 wd_15_16) rfl rfl rfl (by decide +kernel) ⟨Nat.le_of_ble_eq_true rfl, Nat.le_of_ble_eq_true rfl⟩) rfl hl.1 rfl (Nat.le_of_ble_eq_true rfl) ⟨Nat.le_of_ble_eq_true rfl, Nat.le_of_ble_eq_true rfl⟩ dX5_readNumbers_23 rfl (fun H locs h => ?_)
      refine pf_5_5 C h ka0 iz_X5 (List.mem_cons_of_mem _ wd_11_23) dX5_readNumbers_26 (fun H locs h => ?_)
      obtain ⟨σ7, eσ7⟩ : ∃ y : bz_W, y = bz_wi σ6 a0 5 r5 := ⟨_, rfl⟩
      rw [← eσ7] at h
      have hF := lt_u hF σ7 eσ7
      refine lv_aload_n hx hb dX5_readNumbers_29 rfl (lv_at hl 0 rfl) ?_
      refine gf_5_5 C h ka0 iz_X5 (List.mem_cons_of_mem _ wd_11_23) dX5_readNumbers_30 ?_
      refine lv_bipush (v := (-4)) hx hb dX5_readNumbers_33 (by decide) ?_
      refine lv_icmp_eq (tgt := 46) hx hb dX5_readNumbers_35 (by decide) (fun c8 => ?_) (fun c8 => ?_)
      · have hF := it_t hF c8
        refine lv_aload_n hx hb dX5_readNumbers_46 rfl (lv_at hl 0 rfl) ?_
        refine gf_5_5 C h ka0 iz_X5 (List.mem_cons_of_mem _ wd_11_23) dX5_readNumbers_47 ?_
        refine lv_bipush (v := (-4)) hx hb dX5_readNumbers_50 (by decide) ?_
        refine lv_icmp_eq (tgt := 59) hx hb dX5_readNumbers_52 (by decide) (fun c9 => ?_) (fun c9 => ?_)
        · have hF := it_t hF c9
          refine lv_iconst (v := 0) hx hb dX5_readNumbers_59 (by decide) ?_
          exact bz_zret C h hlocks hr (by decide) hF dX5_readNumbers_60
        · have hF := it_f hF c9
          refine lv_iconst (v := 1) hx hb dX5_readNumbers_55 (by decide) ?_
          refine lv_goto (tgt := 60) hx hb dX5_readNumbers_56 (by decide) ?_
          exact bz_zret C h hlocks hr (by decide) hF dX5_readNumbers_60
      · have hF := it_f hF c8
        refine lv_aload_n hx hb dX5_readNumbers_38 rfl (lv_at hl 0 rfl) ?_
        refine gf_5_4 C h ka0 iz_X5 (List.mem_cons_of_mem _ wd_11_22) dX5_readNumbers_39 ?_
        refine lv_iconst (v := 2) hx hb dX5_readNumbers_42 (by decide) ?_
        refine lv_icmp_eq (tgt := 61) hx hb dX5_readNumbers_43 (by decide) (fun c10 => ?_) (fun c10 => ?_)
        · have hF := it_t hF c10
          refine lv_aload_n hx hb dX5_readNumbers_61 rfl (lv_at hl 0 rfl) ?_
          obtain ⟨r11, σ12, qr11, hF⟩ := bd_u hF
          refine bz_callV (rest := []) (st1 := [.int r11]) C h (As := []) (o := some (.int r11)) (τ := σ12) (c_X5_readBlank (l := l) ka0 (res := (r11, σ12)) qr11) ka0 (by decide) (ci := 5) rfl (cwV 0 hts (bz_gV wd_12_17 wd_12_18 wd_12_19 wd_1_20 wd_12_20) rfl rfl rfl (by decide +kernel) ⟨Nat.le_of_ble_eq_true rfl, Nat.le_of_ble_eq_true rfl⟩) rfl hl.1 rfl (by decide) ⟨Nat.le_of_ble_eq_true rfl, Nat.le_of_ble_eq_true rfl⟩ dX5_readNumbers_62 rfl (fun H locs h => ?_)
          refine lv_if_ne (tgt := 70) hx hb dX5_readNumbers_65 (by decide) (fun c13 => ?_) (fun c13 => ?_)
          · have hF := it_f hF c13
            refine lv_aload_n hx hb dX5_readNumbers_70 rfl (lv_at hl 0 rfl) ?_
            refine lv_aload_n hx hb dX5_readNumbers_71 rfl (lv_at hl 0 rfl) ?_
            refine lv_bipush (v := 55) hx hb dX5_readNumbers_72 (by decide) ?_
            obtain ⟨r14, σ15, qr14, hF⟩ := bd_u hF
            refine bz_callV (rest := [.ref a0]) (st1 := [.int r14, .ref a0]) C h (As := [.int 55]) (o := some (.int r14)) (τ := σ15) (c_X5_readDigit (l := l) ka0 (res := (r14, σ15)) qr14) ka0 (by decide) (ci := 5) rfl (cwV 1 hts (bz_gV wd_15_13 wd_15_14 wd_15_15 wd_1_20 wd_15_16) rfl rfl rfl (by decide +kernel) ⟨Nat.le_of_ble_eq_true rfl, Nat.le_of_ble_eq_true rfl⟩) rfl hl.1 rfl (Nat.le_of_ble_eq_true rfl) ⟨Nat.le_of_ble_eq_true rfl, Nat.le_of_ble_eq_true rfl⟩ dX5_readNumbers_74 rfl (fun H locs h => ?_)
            refine pf_5_6 C h ka0 iz_X5 (List.mem_cons_of_mem _ wd_12_0) dX5_readNumbers_77 (fun H locs h => ?_)
            obtain ⟨σ16, eσ16⟩ : ∃ y : bz_W, y = bz_wi σ15 a0 6 r14 := ⟨_, rfl⟩
            rw [← eσ16] at h
            have hF := lt_u hF σ16 eσ16
            refine lv_aload_n hx hb dX5_readNumbers_80 rfl (lv_at hl 0 rfl) ?_
            refine gf_5_6 C h ka0 iz_X5 (List.mem_cons_of_mem _ wd_12_0) dX5_readNumbers_81 ?_
            refine lv_bipush (v := (-4)) hx hb dX5_readNumbers_84 (by decide) ?_
            refine lv_icmp_eq (tgt := 93) hx hb dX5_readNumbers_86 (by decide) (fun c17 => ?_) (fun c17 => ?_)
            · have hF := it_t hF c17
              refine lv_iconst (v := 0) hx hb dX5_readNumbers_93 (by decide) ?_
              exact bz_zret C h hlocks hr (by decide) hF dX5_readNumbers_94
            · have hF := it_f hF c17
              refine lv_iconst (v := 1) hx hb dX5_readNumbers_89 (by decide) ?_
              refine lv_goto (tgt := 94) hx hb dX5_readNumbers_90 (by decide) ?_
              exact bz_zret C h hlocks hr (by decide) hF dX5_readNumbers_94
          · have hF := it_t hF c13
            refine lv_iconst (v := 0) hx hb dX5_readNumbers_68 (by decide) ?_
            exact bz_zret C h hlocks hr (by decide) hF dX5_readNumbers_69
        · have hF := it_f hF c10
          refine lv_aload_n hx hb dX5_readNumbers_46 rfl (lv_at hl 0 rfl) ?_
          refine gf_5_5 C h ka0 iz_X5 (List.mem_cons_of_mem _ wd_11_23) dX5_readNumbers_47 ?_
          refine lv_bipush (v := (-4)) hx hb dX5_readNumbers_50 (by decide) ?_
          refine lv_icmp_eq (tgt := 59) hx hb dX5_readNumbers_52 (by decide) (fun c18 => ?_) (fun c18 => ?_)
          · have hF := it_t hF c18
            refine lv_iconst (v := 0) hx hb dX5_readNumbers_59 (by decide) ?_
            exact bz_zret C h hlocks hr (by decide) hF dX5_readNumbers_60
          · have hF := it_f hF c18
            refine lv_iconst (v := 1) hx hb dX5_readNumbers_55 (by decide) ?_
            refine lv_goto (tgt := 60) hx hb dX5_readNumbers_56 (by decide) ?_
            exact bz_zret C h hlocks hr (by decide) hF dX5_readNumbers_60
  refine lv_icmp_ne (tgt := 21) hx hb dX5_readNumbers_13 (by decide) (fun c19 => ?_) (fun c19 => ?_)
  · have hF := it_f hF c19
    refine lv_bipush (v := 55) hx hb dX5_readNumbers_21 (by decide) ?_
    exact hj4 _ _ H locs ls hF h (lv_sub hl [0] rfl)
  · have hF := it_t hF c19
    refine lv_bipush (v := 49) hx hb dX5_readNumbers_16 (by decide) ?_
    refine lv_goto (tgt := 23) hx hb dX5_readNumbers_18 (by decide) ?_
    exact hj4 _ _ H locs ls hF h (lv_sub hl [0] rfl)
set_option maxHeartbeats 4000000 in
set_option maxRecDepth 100000 in
theorem c_X5_readItem {l : Launch} {G : bz_G} {σ : bz_W} {a0 : Nat} (ka0 : bz_k G a0 = (6, 0)) {res : Int32 × bz_W} (hF : f_X5_readItem σ a0 = some res) : bz_M l yX5_readItem wz_X5_readItem 7 166 G σ [.ref a0] (some (.int res.1)) res.2 := by
  refine bz_mk (cc := cX5_readItem) (maxL := 1) (ret := (some .boolean)) (own := RX5) (by decide) rfl rfl (Nat.le_of_ble_eq_true rfl) ?_
  intro p e s m args below meth c ls C hlocks hr h hl
  have hx := C.1
  have hb := C.2.1
  have hts := C.2.2.2.2.1
  have hl : lv_has ls 1 [(0, .ref a0)] := hl
  obtain ⟨H, eH⟩ : ∃ y, y = s.heap := ⟨_, rfl⟩
  obtain ⟨locs, el⟩ : ∃ y : List Loc, y = [] := ⟨_, rfl⟩
  rw [← el, ← eH] at h ⊢
  unfold f_X5_readItem at hF
  refine lv_aload_n hx hb dX5_readItem_0 rfl (lv_at hl 0 rfl) ?_
  obtain ⟨r1, σ2, qr1, hF⟩ := bd_u hF
  refine bz_callV (rest := []) (st1 := [.int r1]) C h (As := []) (o := some (.int r1)) (τ := σ2) (c_X5_readTime (l := l) ka0 (res := (r1, σ2)) qr1) ka0 (by decide) (ci := 5) rfl (cwV 0 hts (bz_gV wd_12_9 wd_12_10 wd_12_11 wd_1_20 wd_12_12) rfl rfl rfl (by decide +kernel) ⟨Nat.le_of_ble_eq_true rfl, Nat.le_of_ble_eq_true rfl⟩) rfl hl.1 rfl (by decide) ⟨Nat.le_of_ble_eq_true rfl, Nat.le_of_ble_eq_true rfl⟩ dX5_readItem_1 rfl (fun H locs h => ?_)
  refine lv_if_eq (tgt := 39) hx hb dX5_readItem_4 (by decide) (fun c3 => ?_) (fun c3 => ?_)
  · have hF := it_t hF c3
    refine lv_iconst (v := 0) hx hb dX5_readItem_39 (by decide) ?_
    exact bz_zret C h hlocks hr (by decide) hF dX5_readItem_40
  · have hF := it_f hF c3
    refine lv_aload_n hx hb dX5_readItem_7 rfl (lv_at hl 0 rfl) ?_
    obtain ⟨r4, σ5, qr4, hF⟩ := bd_u hF
    refine bz_callV (rest := []) (st1 := [.int r4]) C h (As := []) (o := some (.int r4)) (τ := σ5) (c_X5_readBlank (l := l) ka0 (res := (r4, σ5)) qr4) ka0 (by decide) (ci := 5) rfl (cwV 0 hts (bz_gV wd_12_17 wd_12_18 wd_12_19 wd_1_20 wd_12_20) rfl rfl rfl (by decide +kernel) ⟨Nat.le_of_ble_eq_true rfl, Nat.le_of_ble_eq_true rfl⟩) rfl hl.1 rfl (by decide) ⟨Nat.le_of_ble_eq_true rfl, Nat.le_of_ble_eq_true rfl⟩ dX5_readItem_8 rfl (fun H locs h => ?_)
    refine lv_if_eq (tgt := 39) hx hb dX5_readItem_11 (by decide) (fun c6 => ?_) (fun c6 => ?_)
    · have hF := it_t hF c6
      refine lv_iconst (v := 0) hx hb dX5_readItem_39 (by decide) ?_
      exact bz_zret C h hlocks hr (by decide) hF dX5_readItem_40
    · have hF := it_f hF c6
      refine lv_aload_n hx hb dX5_readItem_14 rfl (lv_at hl 0 rfl) ?_
      obtain ⟨r7, σ8, qr7, hF⟩ := bd_u hF
      refine bz_callV (rest := []) (st1 := [.int r7]) C h (As := []) (o := some (.int r7)) (τ := σ8) (c_X5_readOrder (l := l) ka0 (res := (r7, σ8)) qr7) ka0 (by decide) (ci := 5) rfl (cwV 0 hts (bz_gV wd_12_21 wd_12_22 wd_12_23 wd_1_20 wd_13_0) rfl rfl rfl (by decide +kernel) ⟨Nat.le_of_ble_eq_true rfl, Nat.le_of_ble_eq_true rfl⟩) rfl hl.1 rfl (by decide) ⟨Nat.le_of_ble_eq_true rfl, Nat.le_of_ble_eq_true rfl⟩ dX5_readItem_15 rfl (fun H locs h => ?_)
      refine lv_if_eq (tgt := 39) hx hb dX5_readItem_18 (by decide) (fun c9 => ?_) (fun c9 => ?_)
      · have hF := it_t hF c9
        refine lv_iconst (v := 0) hx hb dX5_readItem_39 (by decide) ?_
        exact bz_zret C h hlocks hr (by decide) hF dX5_readItem_40
      · have hF := it_f hF c9
        refine lv_aload_n hx hb dX5_readItem_21 rfl (lv_at hl 0 rfl) ?_
        obtain ⟨r10, σ11, qr10, hF⟩ := bd_u hF
        refine bz_callV (rest := []) (st1 := [.int r10]) C h (As := []) (o := some (.int r10)) (τ := σ11) (c_X5_readBlank (l := l) ka0 (res := (r10, σ11)) qr10) ka0 (by decide) (ci := 5) rfl (cwV 0 hts (bz_gV wd_12_17 wd_12_18 wd_12_19 wd_1_20 wd_12_20) rfl rfl rfl (by decide +kernel) ⟨Nat.le_of_ble_eq_true rfl, Nat.le_of_ble_eq_true rfl⟩) rfl hl.1 rfl (by decide) ⟨Nat.le_of_ble_eq_true rfl, Nat.le_of_ble_eq_true rfl⟩ dX5_readItem_22 rfl (fun H locs h => ?_)
        refine lv_if_eq (tgt := 39) hx hb dX5_readItem_25 (by decide) (fun c12 => ?_) (fun c12 => ?_)
        · have hF := it_t hF c12
          refine lv_iconst (v := 0) hx hb dX5_readItem_39 (by decide) ?_
          exact bz_zret C h hlocks hr (by decide) hF dX5_readItem_40
        · have hF := it_f hF c12
          refine lv_aload_n hx hb dX5_readItem_28 rfl (lv_at hl 0 rfl) ?_
          obtain ⟨r13, σ14, qr13, hF⟩ := bd_u hF
          refine bz_callV (rest := []) (st1 := [.int r13]) C h (As := []) (o := some (.int r13)) (τ := σ14) (c_X5_readNumbers (l := l) ka0 (res := (r13, σ14)) qr13) ka0 (by decide) (ci := 5) rfl (cwV 0 hts (bz_gV wd_15_9 wd_15_10 wd_15_11 wd_1_20 wd_15_12) rfl rfl rfl (by decide +kernel) ⟨Nat.le_of_ble_eq_true rfl, Nat.le_of_ble_eq_true rfl⟩) rfl hl.1 rfl (by decide) ⟨Nat.le_of_ble_eq_true rfl, Nat.le_of_ble_eq_true rfl⟩ dX5_readItem_29 rfl (fun H locs h => ?_)
          refine lv_if_eq (tgt := 39) hx hb dX5_readItem_32 (by decide) (fun c15 => ?_) (fun c15 => ?_)
          · have hF := it_t hF c15
            refine lv_iconst (v := 0) hx hb dX5_readItem_39 (by decide) ?_
            exact bz_zret C h hlocks hr (by decide) hF dX5_readItem_40
          · have hF := it_f hF c15
            refine lv_iconst (v := 1) hx hb dX5_readItem_35 (by decide) ?_
            refine lv_goto (tgt := 40) hx hb dX5_readItem_36 (by decide) ?_
            exact bz_zret C h hlocks hr (by decide) hF dX5_readItem_40
set_option maxHeartbeats 4000000 in
set_option maxRecDepth 100000 in
theorem L_X5_readInto_L16 {p : Program} {l : Launch} {e : Env} {s : State} {m : MethodId} {args : Array Value} {below : List Frame} {meth : Method} {c : Code} {G : bz_G} (C : bz_C p s m c args cX5_readInto 4 RX5 wz_X5_readInto G) (hlocks : meth.locks = false) (hr : meth.sig.returnType = (some .boolean)) {a0 : Nat} {a1 : Nat} {a2 : Int32} (ka0 : bz_k G a0 = (6, 0)) (ka1 : bz_k G a1 = (5, 0)) {k : bz_W → Option (Int32 × bz_W)} {res : Int32 × bz_W} : ∀ (n : Nat) (v3 : Int32) (σ : bz_W) (H : Heap) (locs : List Loc) (ls : Array Slot), f_X5_readInto_L16 a0 a1 a2 k n v3 σ = some res → bz_H G s σ H locs → lv_has ls 4 [(0, .ref a0), (1, .ref a1), (2, .int a2), (3, .int v3)] → (∀ (σ : bz_W) (H : Heap) (locs : List Loc) (ls : Array Slot), k σ = some res → bz_H G s σ H locs → lv_has ls 4 [] → W p l e ({ frames := 8, cells := 0, slots := 0, locals := 186 } : Room) s m args below meth c H locs 0 0 (MQ below (bz_Qc G (some (.int res.1)) res.2) args s 0 0 (bz_A G)) (F0 m 100 ls [])) → W p l e ({ frames := 8, cells := 0, slots := 0, locals := 186 } : Room) s m args below meth c H locs 0 0 (MQ below (bz_Qc G (some (.int res.1)) res.2) args s 0 0 (bz_A G)) (F0 m 16 ls []) := by
  have hx := C.1
  have hb := C.2.1
  have hts := C.2.2.2.2.1
  intro n
  induction n with
  | zero =>
    intro v3 σ H locs ls hF
    exact absurd hF (by simp [f_X5_readInto_L16])
  | succ n ih =>
    intro v3 σ H locs ls hF h hl hk
    rw [f_X5_readInto_L16] at hF
    refine lv_iload_n hx hb dX5_readInto_16 rfl (lv_at hl 3 rfl) ?_
    refine lv_aload_n hx hb dX5_readInto_17 rfl (lv_at hl 0 rfl) ?_
    refine gf_5_1 C h ka0 iz_X5 (List.mem_cons_of_mem _ wd_11_21) dX5_readInto_18 ?_
    refine lv_icmp_gt (tgt := 100) hx hb dX5_readInto_21 (by decide) (fun c5 => ?_) (fun c5 => ?_)
    · have hF := it_t hF c5
      exact hk _ H locs ls hF h (lv_sub hl [] rfl)
    · have hF := it_f hF c5
      refine lv_aload_n hx hb dX5_readInto_24 rfl (lv_at hl 0 rfl) ?_
      obtain ⟨r6, σ7, qr6, hF⟩ := bd_u hF
      refine bz_callV (rest := []) (st1 := [.int r6]) C h (As := []) (o := some (.int r6)) (τ := σ7) (c_X5_readItem (l := l) ka0 (res := (r6, σ7)) qr6) ka0 (by decide) (ci := 5) rfl (cwV 0 hts (bz_gV wd_12_5 wd_12_6 wd_12_7 wd_1_20 wd_12_8) rfl rfl rfl (by decide +kernel) ⟨Nat.le_of_ble_eq_true rfl, Nat.le_of_ble_eq_true rfl⟩) rfl hl.1 rfl (by decide) ⟨Nat.le_of_ble_eq_true rfl, Nat.le_of_ble_eq_true rfl⟩ dX5_readInto_25 rfl (fun H locs h => ?_)
      refine lv_if_ne (tgt := 33) hx hb dX5_readInto_28 (by decide) (fun c8 => ?_) (fun c8 => ?_)
      · have hF := it_f hF c8
        refine lv_aload_n hx hb dX5_readInto_33 rfl (lv_at hl 1 rfl) ?_
        refine lv_iload_n hx hb dX5_readInto_34 rfl (lv_at hl 2 rfl) ?_
        refine lv_aload_n hx hb dX5_readInto_35 rfl (lv_at hl 0 rfl) ?_
        refine gf_5_3 C h ka0 iz_X5 (List.mem_cons_of_mem _ wd_11_20) dX5_readInto_36 ?_
        refine lv_iadd hx hb dX5_readInto_39 ?_
        refine lv_aload_n hx hb dX5_readInto_40 rfl (lv_at hl 0 rfl) ?_
        refine gf_5_4 C h ka0 iz_X5 (List.mem_cons_of_mem _ wd_11_22) dX5_readInto_41 ?_
        refine lv_aload_n hx hb dX5_readInto_44 rfl (lv_at hl 0 rfl) ?_
        refine gf_5_5 C h ka0 iz_X5 (List.mem_cons_of_mem _ wd_11_23) dX5_readInto_45 ?_
        refine lv_aload_n hx hb dX5_readInto_48 rfl (lv_at hl 0 rfl) ?_
        refine gf_5_6 C h ka0 iz_X5 (List.mem_cons_of_mem _ wd_12_0) dX5_readInto_49 ?_
        obtain ⟨r9, σ10, qr9, hF⟩ := bd_u hF
        refine bz_callV (rest := []) (st1 := []) C h (As := [.int (a2 + (σ7.1 a0 3)), .int (σ7.1 a0 4), .int (σ7.1 a0 5), .int (σ7.1 a0 6)]) (o := none) (τ := σ10) (c_X4_add (l := l) ka1 (res := (r9, σ10)) qr9) ka1 (by decide) (ci := 4) rfl (cwV 4 hts (bz_gV wd_15_17 wd_15_18 wd_15_19 wd_2_0 wd_15_20) rfl rfl rfl (by decide +kernel) ⟨Nat.le_of_ble_eq_true rfl, Nat.le_of_ble_eq_true rfl⟩) rfl hl.1 rfl (by decide) ⟨Nat.le_of_ble_eq_true rfl, Nat.le_of_ble_eq_true rfl⟩ dX5_readInto_52 rfl (fun H locs h => ?_)
        refine lv_aload_n hx hb dX5_readInto_55 rfl (lv_at hl 0 rfl) ?_
        refine gf_5_2 C h ka0 iz_X5 (List.mem_cons_of_mem _ wd_11_19) dX5_readInto_56 ?_
        refine lv_aload_n hx hb dX5_readInto_59 rfl (lv_at hl 0 rfl) ?_
        refine gf_5_1 C h ka0 iz_X5 (List.mem_cons_of_mem _ wd_11_21) dX5_readInto_60 ?_
        refine lv_icmp_lt (tgt := 68) hx hb dX5_readInto_63 (by decide) (fun c11 => ?_) (fun c11 => ?_)
        · have hF := it_t hF c11
          refine lv_aload_n hx hb dX5_readInto_68 rfl (lv_at hl 0 rfl) ?_
          refine gf_5_0 C h ka0 iz_X5 (List.mem_cons_of_mem _ wd_4_4) dX5_readInto_69 (fun k12 => ?_)
          refine lv_aload_n hx hb dX5_readInto_72 rfl (lv_at hl 0 rfl) ?_
          refine gf_5_2 C h ka0 iz_X5 (List.mem_cons_of_mem _ wd_11_19) dX5_readInto_73 ?_
          obtain ⟨c13, hF⟩ := ck_u hF
          refine bz_cald C h k12 c13 (kx := ((σ10.1 a0 2) : Int32).toNatClampNeg) rfl dX5_readInto_76 ?_
          refine lv_bipush (v := 59) hx hb dX5_readInto_77 (by decide) ?_
          refine lv_icmp_eq (tgt := 84) hx hb dX5_readInto_79 (by decide) (fun c14 => ?_) (fun c14 => ?_)
          · have hF := it_t hF c14
            refine lv_aload_n hx hb dX5_readInto_84 rfl (lv_at hl 0 rfl) ?_
            refine lv_dup hx hb dX5_readInto_85 rfl ?_
            refine gf_5_2 C h ka0 iz_X5 (List.mem_cons_of_mem _ wd_11_19) dX5_readInto_86 ?_
            refine lv_iconst (v := 1) hx hb dX5_readInto_89 (by decide) ?_
            refine lv_iadd hx hb dX5_readInto_90 ?_
            refine pf_5_2 C h ka0 iz_X5 (List.mem_cons_of_mem _ wd_11_19) dX5_readInto_91 (fun H locs h => ?_)
            obtain ⟨σ15, eσ15⟩ : ∃ y : bz_W, y = bz_wi σ10 a0 2 ((σ10.1 a0 2) + 1) := ⟨_, rfl⟩
            rw [← eσ15] at h
            have hF := lt_u hF σ15 eσ15
            obtain ⟨x16, ex16⟩ : ∃ y : Int32, y = v3 + 1 := ⟨_, rfl⟩
            have hF := lt_u hF x16 ex16
            refine lv_iinc (v := x16) (lv' := [(3, .int x16), (0, .ref a0), (1, .ref a1), (2, .int a2)]) hx hb dX5_readInto_94 hl (k := 3) rfl (by rw [ex16]; rfl) (by decide) rfl (fun ls hl => ?_)
            refine lv_goto (tgt := 16) hx hb dX5_readInto_97 (by decide) ?_
            exact ih _ _ H locs ls hF h (lv_sub hl [1, 2, 3, 0] rfl) hk
          · have hF := it_f hF c14
            refine lv_iconst (v := 0) hx hb dX5_readInto_82 (by decide) ?_
            exact bz_zret C h hlocks hr (by decide) hF dX5_readInto_83
        · have hF := it_f hF c11
          refine lv_iconst (v := 1) hx hb dX5_readInto_66 (by decide) ?_
          exact bz_zret C h hlocks hr (by decide) hF dX5_readInto_67
      · have hF := it_t hF c8
        refine lv_iconst (v := 0) hx hb dX5_readInto_31 (by decide) ?_
        exact bz_zret C h hlocks hr (by decide) hF dX5_readInto_32
set_option maxHeartbeats 4000000 in
set_option maxRecDepth 100000 in
theorem c_X5_readInto {l : Launch} {G : bz_G} {σ : bz_W} {a0 : Nat} {a1 : Nat} {x2_ : Int32} (ka0 : bz_k G a0 = (6, 0)) (ka1 : bz_k G a1 = (5, 0)) {res : Int32 × bz_W} (hF : f_X5_readInto σ a0 a1 x2_ = some res) : bz_M l yX5_readInto wz_X5_readInto 8 186 G σ [.ref a0, .ref a1, .int x2_] (some (.int res.1)) res.2 := by
  refine bz_mk (cc := cX5_readInto) (maxL := 4) (ret := (some .boolean)) (own := RX5) (by decide) rfl rfl (Nat.le_of_ble_eq_true rfl) ?_
  intro p e s m args below meth c ls C hlocks hr h hl
  have hx := C.1
  have hb := C.2.1
  have hts := C.2.2.2.2.1
  have hl : lv_has ls 4 [(0, .ref a0), (1, .ref a1), (2, .int x2_)] := hl
  obtain ⟨H, eH⟩ : ∃ y, y = s.heap := ⟨_, rfl⟩
  obtain ⟨locs, el⟩ : ∃ y : List Loc, y = [] := ⟨_, rfl⟩
  rw [← el, ← eH] at h ⊢
  unfold f_X5_readInto at hF
  refine lv_aload_n hx hb dX5_readInto_0 rfl (lv_at hl 0 rfl) ?_
  refine lv_iconst (v := 0) hx hb dX5_readInto_1 (by decide) ?_
  refine pf_5_2 C h ka0 iz_X5 (List.mem_cons_of_mem _ wd_11_19) dX5_readInto_2 (fun H locs h => ?_)
  obtain ⟨σ1, eσ1⟩ : ∃ y : bz_W, y = bz_wi σ a0 2 0 := ⟨_, rfl⟩
  rw [← eσ1] at h
  have hF := lt_u hF σ1 eσ1
  refine lv_aload_n hx hb dX5_readInto_5 rfl (lv_at hl 0 rfl) ?_
  refine lv_iconst (v := 0) hx hb dX5_readInto_6 (by decide) ?_
  refine pf_5_3 C h ka0 iz_X5 (List.mem_cons_of_mem _ wd_11_20) dX5_readInto_7 (fun H locs h => ?_)
  obtain ⟨σ2, eσ2⟩ : ∃ y : bz_W, y = bz_wi σ1 a0 3 0 := ⟨_, rfl⟩
  rw [← eσ2] at h
  have hF := lt_u hF σ2 eσ2
  refine lv_aload_n hx hb dX5_readInto_10 rfl (lv_at hl 1 rfl) ?_
  obtain ⟨r3, σ4, qr3, hF⟩ := bd_u hF
  refine bz_callV (rest := []) (st1 := []) C h (As := []) (o := none) (τ := σ4) (c_X4_empty (l := l) ka1 (res := (r3, σ4)) qr3) ka1 (by decide) (ci := 4) rfl (cwV 0 hts (bz_gV wd_12_1 wd_12_2 wd_12_3 wd_2_0 wd_12_4) rfl rfl rfl (by decide +kernel) ⟨Nat.le_of_ble_eq_true rfl, Nat.le_of_ble_eq_true rfl⟩) rfl hl.1 rfl (by decide) ⟨Nat.le_of_ble_eq_true rfl, Nat.le_of_ble_eq_true rfl⟩ dX5_readInto_11 rfl (fun H locs h => ?_)
  refine lv_iconst (v := 0) hx hb dX5_readInto_14 (by decide) ?_
  refine lv_istore_n (lv' := [(3, .int 0), (0, .ref a0), (1, .ref a1), (2, .int x2_)]) hx hb dX5_readInto_15 rfl hl (by decide) rfl (fun ls hl => ?_)
  refine L_X5_readInto_L16 C hlocks hr ka0 ka1 _ _ _ H locs ls hF h (lv_sub hl [1, 2, 3, 0] rfl) ?_
  intro σ17 H locs ls hF h hl
  refine lv_iconst (v := 0) hx hb dX5_readInto_100 (by decide) ?_
  exact bz_zret C h hlocks hr (by decide) hF dX5_readInto_101
set_option maxHeartbeats 4000000 in
set_option maxRecDepth 100000 in
theorem c_X6_refuse {l : Launch} {G : bz_G} {σ : bz_W} {a0 : Nat} {x1_ : Int32} (ka0 : bz_k G a0 = (7, 0)) {res : Int32 × bz_W} (hF : f_X6_refuse σ a0 x1_ = some res) : bz_M l yX6_refuse wz_X6_refuse 0 0 G σ [.ref a0, .int x1_] (some (.int res.1)) res.2 := by
  refine bz_mk (cc := cX6_refuse) (maxL := 2) (ret := (some .int)) (own := RX6) (by decide) rfl rfl (Nat.le_of_ble_eq_true rfl) ?_
  intro p e s m args below meth c ls C hlocks hr h hl
  have hx := C.1
  have hb := C.2.1
  have hts := C.2.2.2.2.1
  have hl : lv_has ls 2 [(0, .ref a0), (1, .int x1_)] := hl
  obtain ⟨H, eH⟩ : ∃ y, y = s.heap := ⟨_, rfl⟩
  obtain ⟨locs, el⟩ : ∃ y : List Loc, y = [] := ⟨_, rfl⟩
  rw [← el, ← eH] at h ⊢
  unfold f_X6_refuse at hF
  refine lv_aload_n hx hb dX6_refuse_0 rfl (lv_at hl 0 rfl) ?_
  refine lv_iload_n hx hb dX6_refuse_1 rfl (lv_at hl 1 rfl) ?_
  refine pf_6_7 C h ka0 iz_X6 (List.mem_cons_of_mem _ wd_8_19) dX6_refuse_2 (fun H locs h => ?_)
  obtain ⟨σ1, eσ1⟩ : ∃ y : bz_W, y = bz_wi σ a0 7 x1_ := ⟨_, rfl⟩
  rw [← eσ1] at h
  have hF := lt_u hF σ1 eσ1
  refine lv_bipush (v := (-3)) hx hb dX6_refuse_5 (by decide) ?_
  exact bz_iret C h hlocks hr hF dX6_refuse_7
set_option maxHeartbeats 4000000 in
set_option maxRecDepth 100000 in
theorem c_X6_addMotor {l : Launch} {G : bz_G} {σ : bz_W} {a0 : Nat} {x1_ : Int32} {x2_ : Int32} {x3_ : Int32} {x4_ : Int32} (ka0 : bz_k G a0 = (7, 0)) {res : Int32 × bz_W} (hF : f_X6_addMotor σ a0 x1_ x2_ x3_ x4_ = some res) : bz_M l yX6_addMotor wz_X6_addMotor 4 104 G σ [.ref a0, .int x1_, .int x2_, .int x3_, .int x4_] (some (.int res.1)) res.2 := by
  refine bz_mk (cc := cX6_addMotor) (maxL := 6) (ret := (some .int)) (own := RX6) (by decide) rfl rfl (Nat.le_of_ble_eq_true rfl) ?_
  intro p e s m args below meth c ls C hlocks hr h hl
  have hx := C.1
  have hb := C.2.1
  have hts := C.2.2.2.2.1
  have hl : lv_has ls 6 [(0, .ref a0), (1, .int x1_), (2, .int x2_), (3, .int x3_), (4, .int x4_)] := hl
  obtain ⟨H, eH⟩ : ∃ y, y = s.heap := ⟨_, rfl⟩
  obtain ⟨locs, el⟩ : ∃ y : List Loc, y = [] := ⟨_, rfl⟩
  rw [← el, ← eH] at h ⊢
  unfold f_X6_addMotor at hF
  refine lv_iload_n hx hb dX6_addMotor_0 rfl (lv_at hl 1 rfl) ?_
  refine lv_iconst (v := 1) hx hb dX6_addMotor_1 (by decide) ?_
  refine lv_bipush (v := 100) hx hb dX6_addMotor_2 (by decide) ?_
  obtain ⟨r1, σ2, qr1, hF⟩ := bd_u hF
  refine bz_callS (rest := []) (st1 := [.int r1]) C h (As := [.int x1_, .int 1, .int 100]) (o := some (.int r1)) (τ := σ2) (c_X6_isOutside (l := l)  (res := (r1, σ2)) qr1) (va_cwS 3 hts (bz_gS wd_9_1 wd_9_2 wd_1_2 wd_9_3) rfl rfl rfl (by decide +kernel) ⟨Nat.le_of_ble_eq_true rfl, Nat.le_of_ble_eq_true rfl⟩) rfl hl.1 rfl (by decide) ⟨Nat.le_of_ble_eq_true rfl, Nat.le_of_ble_eq_true rfl⟩ dX6_addMotor_4 rfl (fun H locs h => ?_)
  refine lv_if_ne (tgt := 42) hx hb dX6_addMotor_7 (by decide) (fun c3 => ?_) (fun c3 => ?_)
  · have hF := it_f hF c3
    refine lv_bipush (v := (-2)) hx hb dX6_addMotor_42 (by decide) ?_
    exact bz_iret C h hlocks hr hF dX6_addMotor_44
  · have hF := it_t hF c3
    refine lv_iload_n hx hb dX6_addMotor_10 rfl (lv_at hl 2 rfl) ?_
    refine lv_iconst (v := 2) hx hb dX6_addMotor_11 (by decide) ?_
    refine lv_bipush (v := 30) hx hb dX6_addMotor_12 (by decide) ?_
    obtain ⟨r4, σ5, qr4, hF⟩ := bd_u hF
    refine bz_callS (rest := []) (st1 := [.int r4]) C h (As := [.int x2_, .int 2, .int 30]) (o := some (.int r4)) (τ := σ5) (c_X6_isOutside (l := l)  (res := (r4, σ5)) qr4) (va_cwS 3 hts (bz_gS wd_9_1 wd_9_2 wd_1_2 wd_9_3) rfl rfl rfl (by decide +kernel) ⟨Nat.le_of_ble_eq_true rfl, Nat.le_of_ble_eq_true rfl⟩) rfl hl.1 rfl (by decide) ⟨Nat.le_of_ble_eq_true rfl, Nat.le_of_ble_eq_true rfl⟩ dX6_addMotor_14 rfl (fun H locs h => ?_)
    refine lv_if_ne (tgt := 42) hx hb dX6_addMotor_17 (by decide) (fun c6 => ?_) (fun c6 => ?_)
    · have hF := it_f hF c6
      refine lv_bipush (v := (-2)) hx hb dX6_addMotor_42 (by decide) ?_
      exact bz_iret C h hlocks hr hF dX6_addMotor_44
    · have hF := it_t hF c6
      refine lv_iload_n hx hb dX6_addMotor_20 rfl (lv_at hl 3 rfl) ?_
      refine lv_iconst (v := 2) hx hb dX6_addMotor_21 (by decide) ?_
      refine lv_bipush (v := 6) hx hb dX6_addMotor_22 (by decide) ?_
      obtain ⟨r7, σ8, qr7, hF⟩ := bd_u hF
      refine bz_callS (rest := []) (st1 := [.int r7]) C h (As := [.int x3_, .int 2, .int 6]) (o := some (.int r7)) (τ := σ8) (c_X6_isOutside (l := l)  (res := (r7, σ8)) qr7) (va_cwS 3 hts (bz_gS wd_9_1 wd_9_2 wd_1_2 wd_9_3) rfl rfl rfl (by decide +kernel) ⟨Nat.le_of_ble_eq_true rfl, Nat.le_of_ble_eq_true rfl⟩) rfl hl.1 rfl (by decide) ⟨Nat.le_of_ble_eq_true rfl, Nat.le_of_ble_eq_true rfl⟩ dX6_addMotor_24 rfl (fun H locs h => ?_)
      refine lv_if_ne (tgt := 42) hx hb dX6_addMotor_27 (by decide) (fun c9 => ?_) (fun c9 => ?_)
      · have hF := it_f hF c9
        refine lv_bipush (v := (-2)) hx hb dX6_addMotor_42 (by decide) ?_
        exact bz_iret C h hlocks hr hF dX6_addMotor_44
      · have hF := it_t hF c9
        refine lv_iload hx hb dX6_addMotor_30 (lv_at hl 4 rfl) ?_
        refine lv_bipush (v := 100) hx hb dX6_addMotor_32 (by decide) ?_
        refine lv_ldc (v := 60000) hx hb C.2.2.2.1 (hts _ (List.mem_cons_of_mem _ wd_22_2)) dX6_addMotor_34 ?_
        obtain ⟨r10, σ11, qr10, hF⟩ := bd_u hF
        refine bz_callS (rest := []) (st1 := [.int r10]) C h (As := [.int x4_, .int 100, .int 60000]) (o := some (.int r10)) (τ := σ11) (c_X6_isOutside (l := l)  (res := (r10, σ11)) qr10) (va_cwS 3 hts (bz_gS wd_9_1 wd_9_2 wd_1_2 wd_9_3) rfl rfl rfl (by decide +kernel) ⟨Nat.le_of_ble_eq_true rfl, Nat.le_of_ble_eq_true rfl⟩) rfl hl.1 rfl (by decide) ⟨Nat.le_of_ble_eq_true rfl, Nat.le_of_ble_eq_true rfl⟩ dX6_addMotor_36 rfl (fun H locs h => ?_)
        refine lv_if_eq (tgt := 45) hx hb dX6_addMotor_39 (by decide) (fun c12 => ?_) (fun c12 => ?_)
        · have hF := it_t hF c12
          refine lv_aload_n hx hb dX6_addMotor_45 rfl (lv_at hl 0 rfl) ?_
          refine gf_6_0 C h ka0 iz_X6 (List.mem_cons_of_mem _ wd_1_12) dX6_addMotor_46 (fun k13 => ?_)
          refine gf_3_3 C h k13 iz_X3 (List.mem_cons_of_mem _ wd_7_9) dX6_addMotor_49 ?_
          refine lv_bipush (v := 8) hx hb dX6_addMotor_52 (by decide) ?_
          refine lv_icmp_lt (tgt := 63) hx hb dX6_addMotor_54 (by decide) (fun c14 => ?_) (fun c14 => ?_)
          · have hF := it_t hF c14
            refine lv_aload_n hx hb dX6_addMotor_63 rfl (lv_at hl 0 rfl) ?_
            refine gf_6_1 C h ka0 iz_X6 (List.mem_cons_of_mem _ wd_1_16) dX6_addMotor_64 (fun k15 => ?_)
            refine lv_aload_n hx hb dX6_addMotor_67 rfl (lv_at hl 0 rfl) ?_
            refine gf_6_0 C h ka0 iz_X6 (List.mem_cons_of_mem _ wd_1_12) dX6_addMotor_68 (fun k16 => ?_)
            obtain ⟨r17, σ18, qr17, hF⟩ := bd_u hF
            refine bz_callV (rest := []) (st1 := []) C h (As := [.ref (σ11.2 a0 0)]) (o := none) (τ := σ18) (c_X1_record (l := l) k15 k16 (res := (r17, σ18)) qr17) k15 (by decide) (ci := 1) rfl (cwV 1 hts (bz_gV wd_6_16 wd_6_17 wd_6_18 wd_1_15 wd_6_19) rfl rfl rfl (by decide +kernel) ⟨Nat.le_of_ble_eq_true rfl, Nat.le_of_ble_eq_true rfl⟩) rfl hl.1 rfl (by decide) ⟨Nat.le_of_ble_eq_true rfl, Nat.le_of_ble_eq_true rfl⟩ dX6_addMotor_71 rfl (fun H locs h => ?_)
            refine lv_aload_n hx hb dX6_addMotor_74 rfl (lv_at hl 0 rfl) ?_
            refine gf_6_0 C h ka0 iz_X6 (List.mem_cons_of_mem _ wd_1_12) dX6_addMotor_75 (fun k19 => ?_)
            refine gf_3_3 C h k19 iz_X3 (List.mem_cons_of_mem _ wd_7_9) dX6_addMotor_78 ?_
            refine lv_topi (fun x20 ex20 => ?_)
            have hF := lt_u hF x20 ex20
            refine lv_istore (lv' := [(5, .int x20), (0, .ref a0), (1, .int x1_), (2, .int x2_), (3, .int x3_), (4, .int x4_)]) hx hb dX6_addMotor_81 hl (by decide) rfl (fun ls hl => ?_)
            refine lv_aload_n hx hb dX6_addMotor_83 rfl (lv_at hl 1 rfl) ?_
            refine gf_6_0 C h ka0 iz_X6 (List.mem_cons_of_mem _ wd_1_12) dX6_addMotor_84 (fun k21 => ?_)
            refine gf_3_0 C h k21 iz_X3 (List.mem_cons_of_mem _ wd_7_10) dX6_addMotor_87 (fun k22 => ?_)
            refine lv_iload hx hb dX6_addMotor_90 (lv_at hl 0 rfl) ?_
            obtain ⟨c23, hF⟩ := ck_u hF
            refine bz_aaldm C h k22 c23 (kx := x20.toNatClampNeg) rfl dX6_addMotor_92 (fun k24 => ?_)
            refine lv_iload_n hx hb dX6_addMotor_93 rfl (lv_at hl 2 rfl) ?_
            refine lv_iload_n hx hb dX6_addMotor_94 rfl (lv_at hl 3 rfl) ?_
            refine lv_iload_n hx hb dX6_addMotor_95 rfl (lv_at hl 4 rfl) ?_
            refine lv_iload hx hb dX6_addMotor_96 (lv_at hl 5 rfl) ?_
            obtain ⟨r25, σ26, qr25, hF⟩ := bd_u hF
            refine bz_callV (rest := []) (st1 := []) C h (As := [.int x1_, .int x2_, .int x3_, .int x4_]) (o := none) (τ := σ26) (c_X2_begin (l := l) k24 (res := (r25, σ26)) qr25) k24 (by decide) (ci := 2) rfl (cwV 4 hts (bz_gV wd_22_3 wd_22_4 wd_22_5 wd_2_11 wd_22_6) rfl rfl rfl (by decide +kernel) ⟨Nat.le_of_ble_eq_true rfl, Nat.le_of_ble_eq_true rfl⟩) rfl hl.1 rfl (by decide) ⟨Nat.le_of_ble_eq_true rfl, Nat.le_of_ble_eq_true rfl⟩ dX6_addMotor_98 rfl (fun H locs h => ?_)
            refine lv_aload_n hx hb dX6_addMotor_101 rfl (lv_at hl 1 rfl) ?_
            refine gf_6_0 C h ka0 iz_X6 (List.mem_cons_of_mem _ wd_1_12) dX6_addMotor_102 (fun k27 => ?_)
            refine lv_iload hx hb dX6_addMotor_105 (lv_at hl 0 rfl) ?_
            refine lv_iconst (v := 1) hx hb dX6_addMotor_107 (by decide) ?_
            refine lv_iadd hx hb dX6_addMotor_108 ?_
            refine pf_3_3 C h k27 iz_X3 (List.mem_cons_of_mem _ wd_7_9) dX6_addMotor_109 (fun H locs h => ?_)
            obtain ⟨σ28, eσ28⟩ : ∃ y : bz_W, y = bz_wi σ26 (σ26.2 a0 0) 3 (x20 + 1) := ⟨_, rfl⟩
            rw [← eσ28] at h
            have hF := lt_u hF σ28 eσ28
            refine lv_iload hx hb dX6_addMotor_112 (lv_at hl 0 rfl) ?_
            exact bz_iret C h hlocks hr hF dX6_addMotor_114
          · have hF := it_f hF c14
            refine lv_aload_n hx hb dX6_addMotor_57 rfl (lv_at hl 0 rfl) ?_
            refine lv_iconst (v := 5) hx hb dX6_addMotor_58 (by decide) ?_
            obtain ⟨r29, σ30, qr29, hF⟩ := bd_u hF
            refine bz_callV (rest := []) (st1 := [.int r29]) C h (As := [.int 5]) (o := some (.int r29)) (τ := σ30) (c_X6_refuse (l := l) ka0 (res := (r29, σ30)) qr29) ka0 (by decide) (ci := 6) rfl (cwV 1 hts (bz_gV wd_8_15 wd_8_16 wd_8_17 wd_1_2 wd_8_18) rfl rfl rfl (by decide +kernel) ⟨Nat.le_of_ble_eq_true rfl, Nat.le_of_ble_eq_true rfl⟩) rfl hl.1 rfl (by decide) ⟨Nat.le_of_ble_eq_true rfl, Nat.le_of_ble_eq_true rfl⟩ dX6_addMotor_59 rfl (fun H locs h => ?_)
            exact bz_iret C h hlocks hr hF dX6_addMotor_62
        · have hF := it_f hF c12
          refine lv_bipush (v := (-2)) hx hb dX6_addMotor_42 (by decide) ?_
          exact bz_iret C h hlocks hr hF dX6_addMotor_44
set_option maxHeartbeats 4000000 in
set_option maxRecDepth 100000 in
theorem c_X6_setNeed {l : Launch} {G : bz_G} {σ : bz_W} {a0 : Nat} {x1_ : Int32} {x2_ : Int32} (ka0 : bz_k G a0 = (7, 0)) {res : Int32 × bz_W} (hF : f_X6_setNeed σ a0 x1_ x2_ = some res) : bz_M l yX6_setNeed wz_X6_setNeed 4 104 G σ [.ref a0, .int x1_, .int x2_] (some (.int res.1)) res.2 := by
  refine bz_mk (cc := cX6_setNeed) (maxL := 5) (ret := (some .int)) (own := RX6) (by decide) rfl rfl (Nat.le_of_ble_eq_true rfl) ?_
  intro p e s m args below meth c ls C hlocks hr h hl
  have hx := C.1
  have hb := C.2.1
  have hts := C.2.2.2.2.1
  have hl : lv_has ls 5 [(0, .ref a0), (1, .int x1_), (2, .int x2_)] := hl
  obtain ⟨H, eH⟩ : ∃ y, y = s.heap := ⟨_, rfl⟩
  obtain ⟨locs, el⟩ : ∃ y : List Loc, y = [] := ⟨_, rfl⟩
  rw [← el, ← eH] at h ⊢
  unfold f_X6_setNeed at hF
  refine lv_aload_n hx hb dX6_setNeed_0 rfl (lv_at hl 0 rfl) ?_
  refine gf_6_0 C h ka0 iz_X6 (List.mem_cons_of_mem _ wd_1_12) dX6_setNeed_1 (fun k1 => ?_)
  refine lv_iload_n hx hb dX6_setNeed_4 rfl (lv_at hl 1 rfl) ?_
  obtain ⟨r2, σ3, qr2, hF⟩ := bd_u hF
  have h0 := h
  refine bz_callV (rest := []) (st1 := [bz_rv r2]) C h (As := [.int x1_]) (o := some (bz_rv r2)) (τ := σ3) (c_X3_find (l := l) k1 (res := (r2, σ3)) qr2) k1 (by decide) (ci := 3) rfl (cwV 1 hts (bz_gV wd_8_11 wd_8_12 wd_8_13 wd_1_11 wd_8_14) rfl rfl rfl (by decide +kernel) ⟨Nat.le_of_ble_eq_true rfl, Nat.le_of_ble_eq_true rfl⟩) rfl hl.1 rfl (by decide) ⟨Nat.le_of_ble_eq_true rfl, Nat.le_of_ble_eq_true rfl⟩ dX6_setNeed_5 rfl (fun H locs h => ?_)
  by_cases zr2 : r2 = 0
  · have hF := it_t hF zr2
    rw [show bz_rv r2 = .null by rw [zr2]; rfl]
    refine lv_astore_nN (lv' := [(3, .null), (0, .ref a0), (1, .int x1_), (2, .int x2_)]) hx hb dX6_setNeed_8 rfl hl (by decide) rfl (fun ls hl => ?_)
    refine lv_aload_nN hx hb dX6_setNeed_9 rfl (lv_at hl 0 rfl) ?_
    refine lv_ifnonnullN hx hb dX6_setNeed_10 ?_
    refine lv_iconst (v := (-1)) hx hb dX6_setNeed_13 (by decide) ?_
    exact bz_iret C h hlocks hr hF dX6_setNeed_14
  · have hF := it_f hF zr2
    have kr2 := kd_X3_find k1 h0.2.1 qr2 zr2
    rw [bz_rv0 C.2.2.2.2.2.1.2.2.2 kr2 (by decide)]
    refine lv_astore_n (lv' := [(3, .ref r2), (0, .ref a0), (1, .int x1_), (2, .int x2_)]) hx hb dX6_setNeed_8 rfl hl (by decide) rfl (fun ls hl => ?_)
    refine lv_aload_n hx hb dX6_setNeed_9 rfl (lv_at hl 0 rfl) ?_
    refine lv_ifnonnull (tgt := 15) hx hb dX6_setNeed_10 (by decide) ?_
    refine lv_iload_n hx hb dX6_setNeed_15 rfl (lv_at hl 3 rfl) ?_
    refine lv_iconst (v := 0) hx hb dX6_setNeed_16 (by decide) ?_
    refine lv_bipush (v := 9) hx hb dX6_setNeed_17 (by decide) ?_
    obtain ⟨r4, σ5, qr4, hF⟩ := bd_u hF
    refine bz_callS (rest := []) (st1 := [.int r4]) C h (As := [.int x2_, .int 0, .int 9]) (o := some (.int r4)) (τ := σ5) (c_X6_isOutside (l := l)  (res := (r4, σ5)) qr4) (va_cwS 3 hts (bz_gS wd_9_1 wd_9_2 wd_1_2 wd_9_3) rfl rfl rfl (by decide +kernel) ⟨Nat.le_of_ble_eq_true rfl, Nat.le_of_ble_eq_true rfl⟩) rfl hl.1 rfl (by decide) ⟨Nat.le_of_ble_eq_true rfl, Nat.le_of_ble_eq_true rfl⟩ dX6_setNeed_19 rfl (fun H locs h => ?_)
    refine lv_if_eq (tgt := 28) hx hb dX6_setNeed_22 (by decide) (fun c6 => ?_) (fun c6 => ?_)
    · have hF := it_t hF c6
      refine lv_aload_n hx hb dX6_setNeed_28 rfl (lv_at hl 0 rfl) ?_
      refine gf_2_7 C h kr2 iz_X2 (List.mem_cons_of_mem _ wd_21_11) dX6_setNeed_29 ?_
      refine lv_topi (fun x7 ex7 => ?_)
      have hF := lt_u hF x7 ex7
      refine lv_istore (lv' := [(4, .int x7), (3, .ref r2), (0, .ref a0), (1, .int x1_), (2, .int x2_)]) hx hb dX6_setNeed_32 hl (by decide) rfl (fun ls hl => ?_)
      refine lv_iload_n hx hb dX6_setNeed_34 rfl (lv_at hl 4 rfl) ?_
      refine lv_iload hx hb dX6_setNeed_35 (lv_at hl 0 rfl) ?_
      refine lv_icmp_ne (tgt := 43) hx hb dX6_setNeed_37 (by decide) (fun c8 => ?_) (fun c8 => ?_)
      · have hF := it_f hF c8
        refine lv_aload_n hx hb dX6_setNeed_43 rfl (lv_at hl 2 rfl) ?_
        refine gf_6_1 C h ka0 iz_X6 (List.mem_cons_of_mem _ wd_1_16) dX6_setNeed_44 (fun k9 => ?_)
        refine lv_aload_n hx hb dX6_setNeed_47 rfl (lv_at hl 2 rfl) ?_
        refine gf_6_0 C h ka0 iz_X6 (List.mem_cons_of_mem _ wd_1_12) dX6_setNeed_48 (fun k10 => ?_)
        obtain ⟨r11, σ12, qr11, hF⟩ := bd_u hF
        refine bz_callV (rest := []) (st1 := []) C h (As := [.ref (σ5.2 a0 0)]) (o := none) (τ := σ12) (c_X1_record (l := l) k9 k10 (res := (r11, σ12)) qr11) k9 (by decide) (ci := 1) rfl (cwV 1 hts (bz_gV wd_6_16 wd_6_17 wd_6_18 wd_1_15 wd_6_19) rfl rfl rfl (by decide +kernel) ⟨Nat.le_of_ble_eq_true rfl, Nat.le_of_ble_eq_true rfl⟩) rfl hl.1 rfl (by decide) ⟨Nat.le_of_ble_eq_true rfl, Nat.le_of_ble_eq_true rfl⟩ dX6_setNeed_51 rfl (fun H locs h => ?_)
        refine lv_aload_n hx hb dX6_setNeed_54 rfl (lv_at hl 1 rfl) ?_
        refine lv_iload_n hx hb dX6_setNeed_55 rfl (lv_at hl 4 rfl) ?_
        refine pf_2_7 C h kr2 iz_X2 (List.mem_cons_of_mem _ wd_21_11) dX6_setNeed_56 (fun H locs h => ?_)
        obtain ⟨σ13, eσ13⟩ : ∃ y : bz_W, y = bz_wi σ12 r2 7 x2_ := ⟨_, rfl⟩
        rw [← eσ13] at h
        have hF := lt_u hF σ13 eσ13
        refine lv_iload hx hb dX6_setNeed_59 (lv_at hl 0 rfl) ?_
        exact bz_iret C h hlocks hr hF dX6_setNeed_61
      · have hF := it_t hF c8
        refine lv_bipush (v := (-4)) hx hb dX6_setNeed_40 (by decide) ?_
        exact bz_iret C h hlocks hr hF dX6_setNeed_42
    · have hF := it_f hF c6
      refine lv_bipush (v := (-2)) hx hb dX6_setNeed_25 (by decide) ?_
      exact bz_iret C h hlocks hr hF dX6_setNeed_27
