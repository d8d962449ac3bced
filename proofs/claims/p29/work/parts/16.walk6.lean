set_option maxHeartbeats 4000000 in
set_option maxRecDepth 100000 in
theorem L_L_passedOver_L4 {p : Program} {l : Launch} {e : Env} {s : State} {m : MethodId} {args : Array Value} {below : List Frame} {meth : Method} {c : Code} {G : bz_G} (C : bz_C p s m c args cL_passedOver 3 RL wz_L_passedOver G) (hlocks : meth.locks = false) (hr : meth.sig.returnType = (some .int)) {a0 : Nat} (ka0 : bz_k G a0 = (7, 0)) {k : Int32 → bz_W → Option (Int32 × bz_W)} {res : Int32 × bz_W} : ∀ (n : Nat) (v1 : Int32) (v2 : Int32) (σ : bz_W) (H : Heap) (locs : List Loc) (ls : Array Slot), f_L_passedOver_L4 a0 k n v1 v2 σ = some res → bz_H G s σ H locs → lv_has ls 3 [(0, .ref a0), (1, .int v1), (2, .int v2)] → (∀ (w1 : Int32) (σ : bz_W) (H : Heap) (locs : List Loc) (ls : Array Slot), k w1 σ = some res → bz_H G s σ H locs → lv_has ls 3 [(1, .int w1)] → W p l e ({ frames := 4, cells := 0, slots := 0, locals := 85 } : Room) s m args below meth c H locs 0 0 (MQ below (bz_Qc G (some (.int res.1)) res.2) args s 0 0 (bz_A G)) (F0 m 29 ls [])) → W p l e ({ frames := 4, cells := 0, slots := 0, locals := 85 } : Room) s m args below meth c H locs 0 0 (MQ below (bz_Qc G (some (.int res.1)) res.2) args s 0 0 (bz_A G)) (F0 m 4 ls []) := by
  have hx := C.1
  have hb := C.2.1
  have hts := C.2.2.2.2.1
  intro n
  induction n with
  | zero =>
    intro v1 v2 σ H locs ls hF
    exact absurd hF (by simp [f_L_passedOver_L4])
  | succ n ih =>
    intro v1 v2 σ H locs ls hF h hl hk
    rw [f_L_passedOver_L4] at hF
    refine lv_iload_n hx hb dL_passedOver_4 rfl (lv_at hl 2 rfl) ?_
    refine lv_aload_n hx hb dL_passedOver_5 rfl (lv_at hl 0 rfl) ?_
    refine lv_iconst (v := 0) hx hb dL_passedOver_6 (by decide) ?_
    obtain ⟨r1, σ2, qr1, hF⟩ := bd_u hF
    refine bz_callV (rest := [.int v2]) (st1 := [.int r1, .int v2]) C h (As := [.int 0]) (o := some (.int r1)) (τ := σ2) (c_X6_count (l := l) ka0 (res := (r1, σ2)) qr1) ka0 (by decide) (ci := 6) rfl (cwV 1 hts (bz_gV wd_16_2 wd_16_3 wd_16_4 wd_1_2 wd_16_5) rfl rfl rfl (by decide +kernel) ⟨Nat.le_of_ble_eq_true rfl, Nat.le_of_ble_eq_true rfl⟩) rfl hl.1 rfl (Nat.le_of_ble_eq_true rfl) ⟨Nat.le_of_ble_eq_true rfl, Nat.le_of_ble_eq_true rfl⟩ dL_passedOver_7 rfl (fun H locs h => ?_)
    refine lv_icmp_ge (tgt := 29) hx hb dL_passedOver_10 (by decide) (fun c3 => ?_) (fun c3 => ?_)
    · have hF := it_t hF c3
      exact hk _ _ H locs ls hF h (lv_sub hl [1] rfl)
    · have hF := it_f hF c3
      refine lv_iload_n hx hb dL_passedOver_13 rfl (lv_at hl 1 rfl) ?_
      refine lv_aload_n hx hb dL_passedOver_14 rfl (lv_at hl 0 rfl) ?_
      refine lv_iload_n hx hb dL_passedOver_15 rfl (lv_at hl 2 rfl) ?_
      refine lv_bipush (v := 6) hx hb dL_passedOver_16 (by decide) ?_
      obtain ⟨r4, σ5, qr4, hF⟩ := bd_u hF
      refine bz_callV (rest := [.int v1]) (st1 := [.int r4, .int v1]) C h (As := [.int v2, .int 6]) (o := some (.int r4)) (τ := σ5) (c_X6_account (l := l) ka0 (res := (r4, σ5)) qr4) ka0 (by decide) (ci := 6) rfl (cwV 2 hts (bz_gV wd_21_18 wd_21_19 wd_21_20 wd_1_2 wd_21_21) rfl rfl rfl (by decide +kernel) ⟨Nat.le_of_ble_eq_true rfl, Nat.le_of_ble_eq_true rfl⟩) rfl hl.1 rfl (Nat.le_of_ble_eq_true rfl) ⟨Nat.le_of_ble_eq_true rfl, Nat.le_of_ble_eq_true rfl⟩ dL_passedOver_18 rfl (fun H locs h => ?_)
      refine lv_iadd hx hb dL_passedOver_21 ?_
      refine lv_topi (fun x6 ex6 => ?_)
      have hF := lt_u hF x6 ex6
      refine lv_istore_n (lv' := [(1, .int x6), (0, .ref a0), (2, .int v2)]) hx hb dL_passedOver_22 rfl hl (by decide) rfl (fun ls hl => ?_)
      obtain ⟨x7, ex7⟩ : ∃ y : Int32, y = v2 + 1 := ⟨_, rfl⟩
      have hF := lt_u hF x7 ex7
      refine lv_iinc (v := x7) (lv' := [(2, .int x7), (1, .int x6), (0, .ref a0)]) hx hb dL_passedOver_23 hl (k := 2) rfl (by rw [ex7]; rfl) (by decide) rfl (fun ls hl => ?_)
      refine lv_goto (tgt := 4) hx hb dL_passedOver_26 (by decide) ?_
      exact ih _ _ _ H locs ls hF h (lv_sub hl [2, 1, 0] rfl) hk
set_option maxHeartbeats 4000000 in
set_option maxRecDepth 100000 in
theorem c_L_passedOver {l : Launch} {G : bz_G} {σ : bz_W} {a0 : Nat} (ka0 : bz_k G a0 = (7, 0)) {res : Int32 × bz_W} (hF : f_L_passedOver σ a0 = some res) : bz_M l yL_passedOver wz_L_passedOver 4 85 G σ [.ref a0] (some (.int res.1)) res.2 := by
  refine bz_mk (cc := cL_passedOver) (maxL := 3) (ret := (some .int)) (own := RL) (by decide) rfl rfl (Nat.le_of_ble_eq_true rfl) ?_
  intro p e s m args below meth c ls C hlocks hr h hl
  have hx := C.1
  have hb := C.2.1
  have hts := C.2.2.2.2.1
  have hl : lv_has ls 3 [(0, .ref a0)] := hl
  obtain ⟨H, eH⟩ : ∃ y, y = s.heap := ⟨_, rfl⟩
  obtain ⟨locs, el⟩ : ∃ y : List Loc, y = [] := ⟨_, rfl⟩
  rw [← el, ← eH] at h ⊢
  unfold f_L_passedOver at hF
  refine lv_iconst (v := 0) hx hb dL_passedOver_0 (by decide) ?_
  refine lv_istore_n (lv' := [(1, .int 0), (0, .ref a0)]) hx hb dL_passedOver_1 rfl hl (by decide) rfl (fun ls hl => ?_)
  refine lv_iconst (v := 0) hx hb dL_passedOver_2 (by decide) ?_
  refine lv_istore_n (lv' := [(2, .int 0), (1, .int 0), (0, .ref a0)]) hx hb dL_passedOver_3 rfl hl (by decide) rfl (fun ls hl => ?_)
  refine L_L_passedOver_L4 C hlocks hr ka0 _ _ _ _ H locs ls hF h (lv_sub hl [2, 1, 0] rfl) ?_
  intro x8 σ9 H locs ls hF h hl
  refine lv_iload_n hx hb dL_passedOver_29 rfl (lv_at hl 0 rfl) ?_
  exact bz_iret C h hlocks hr hF dL_passedOver_30
set_option maxHeartbeats 4000000 in
set_option maxRecDepth 100000 in
theorem L_L_second_L8 {p : Program} {l : Launch} {e : Env} {s : State} {m : MethodId} {args : Array Value} {below : List Frame} {meth : Method} {c : Code} {G : bz_G} (C : bz_C p s m c args cL_second 8 RL wz_L_second G) (hlocks : meth.locks = false) (hr : meth.sig.returnType = (some .boolean)) {a0 : Nat} (ka0 : bz_k G a0 = (7, 0)) {k : Int32 → Int32 → bz_W → Option (Int32 × bz_W)} {res : Int32 × bz_W} : ∀ (n : Nat) (v1 : Int32) (v2 : Int32) (σ : bz_W) (H : Heap) (locs : List Loc) (ls : Array Slot), f_L_second_L8 a0 k n v1 v2 σ = some res → bz_H G s σ H locs → lv_has ls 8 [(0, .ref a0), (1, .int v1), (2, .int v2)] → (∀ (w1 : Int32) (w2 : Int32) (σ : bz_W) (H : Heap) (locs : List Loc) (ls : Array Slot), k w1 w2 σ = some res → bz_H G s σ H locs → lv_has ls 8 [(0, .ref a0), (1, .int w1), (2, .int w2)] → W p l e ({ frames := 8, cells := 0, slots := 0, locals := 184 } : Room) s m args below meth c H locs 0 0 (MQ below (bz_Qc G (some (.int res.1)) res.2) args s 0 0 (bz_A G)) (F0 m 32 ls [])) → W p l e ({ frames := 8, cells := 0, slots := 0, locals := 184 } : Room) s m args below meth c H locs 0 0 (MQ below (bz_Qc G (some (.int res.1)) res.2) args s 0 0 (bz_A G)) (F0 m 8 ls []) := by
  have hx := C.1
  have hb := C.2.1
  have hts := C.2.2.2.2.1
  intro n
  induction n with
  | zero =>
    intro v1 v2 σ H locs ls hF
    exact absurd hF (by simp [f_L_second_L8])
  | succ n ih =>
    intro v1 v2 σ H locs ls hF h hl hk
    rw [f_L_second_L8] at hF
    refine lv_iload_n hx hb dL_second_8 rfl (lv_at hl 2 rfl) ?_
    refine lv_if_lt (tgt := 32) hx hb dL_second_9 (by decide) (fun c3 => ?_) (fun c3 => ?_)
    · have hF := it_t hF c3
      exact hk _ _ _ H locs ls hF h (lv_sub hl [0, 1, 2] rfl)
    · have hF := it_f hF c3
      refine lv_aload_n hx hb dL_second_12 rfl (lv_at hl 0 rfl) ?_
      refine lv_iload_n hx hb dL_second_13 rfl (lv_at hl 2 rfl) ?_
      obtain ⟨r4, σ5, qr4, hF⟩ := bd_u hF
      refine bz_callV (rest := []) (st1 := [.int r4]) C h (As := [.int v2]) (o := some (.int r4)) (τ := σ5) (c_X6_whyNot (l := l) ka0 (res := (r4, σ5)) qr4) ka0 (by decide) (ci := 6) rfl (cwV 1 hts (bz_gV wd_24_3 wd_24_4 wd_24_5 wd_1_2 wd_24_6) rfl rfl rfl (by decide +kernel) ⟨Nat.le_of_ble_eq_true rfl, Nat.le_of_ble_eq_true rfl⟩) rfl hl.1 rfl (by decide) ⟨Nat.le_of_ble_eq_true rfl, Nat.le_of_ble_eq_true rfl⟩ dL_second_14 rfl (fun H locs h => ?_)
      refine lv_if_eq (tgt := 32) hx hb dL_second_17 (by decide) (fun c6 => ?_) (fun c6 => ?_)
      · have hF := it_t hF c6
        exact hk _ _ _ H locs ls hF h (lv_sub hl [0, 1, 2] rfl)
      · have hF := it_f hF c6
        obtain ⟨x7, ex7⟩ : ∃ y : Int32, y = v1 + 1 := ⟨_, rfl⟩
        have hF := lt_u hF x7 ex7
        refine lv_iinc (v := x7) (lv' := [(1, .int x7), (0, .ref a0), (2, .int v2)]) hx hb dL_second_20 hl (k := 1) rfl (by rw [ex7]; rfl) (by decide) rfl (fun ls hl => ?_)
        refine lv_aload_n hx hb dL_second_23 rfl (lv_at hl 1 rfl) ?_
        refine lv_iload_n hx hb dL_second_24 rfl (lv_at hl 0 rfl) ?_
        obtain ⟨r8, σ9, qr8, hF⟩ := bd_u hF
        refine bz_callV (rest := []) (st1 := [.int r8]) C h (As := [.int x7]) (o := some (.int r8)) (τ := σ9) (c_X6_queue (l := l) ka0 (res := (r8, σ9)) qr8) ka0 (by decide) (ci := 6) rfl (cwV 1 hts (bz_gV wd_7_1 wd_7_2 wd_7_3 wd_1_2 wd_7_4) rfl rfl rfl (by decide +kernel) ⟨Nat.le_of_ble_eq_true rfl, Nat.le_of_ble_eq_true rfl⟩) rfl hl.1 rfl (by decide) ⟨Nat.le_of_ble_eq_true rfl, Nat.le_of_ble_eq_true rfl⟩ dL_second_25 rfl (fun H locs h => ?_)
        refine lv_istore_n (lv' := [(2, .int r8), (1, .int x7), (0, .ref a0)]) hx hb dL_second_28 rfl hl (by decide) rfl (fun ls hl => ?_)
        refine lv_goto (tgt := 8) hx hb dL_second_29 (by decide) ?_
        exact ih _ _ _ H locs ls hF h (lv_sub hl [2, 1, 0] rfl) hk
set_option maxHeartbeats 4000000 in
set_option maxRecDepth 100000 in
theorem c_L_second {l : Launch} {G : bz_G} {σ : bz_W} {a0 : Nat} (ka0 : bz_k G a0 = (7, 0)) {res : Int32 × bz_W} (hF : f_L_second σ a0 = some res) : bz_M l yL_second wz_L_second 8 184 G σ [.ref a0] (some (.int res.1)) res.2 := by
  refine bz_mk (cc := cL_second) (maxL := 8) (ret := (some .boolean)) (own := RL) (by decide) rfl rfl (Nat.le_of_ble_eq_true rfl) ?_
  intro p e s m args below meth c ls C hlocks hr h hl
  have hx := C.1
  have hb := C.2.1
  have hts := C.2.2.2.2.1
  have hl : lv_has ls 8 [(0, .ref a0)] := hl
  obtain ⟨H, eH⟩ : ∃ y, y = s.heap := ⟨_, rfl⟩
  obtain ⟨locs, el⟩ : ∃ y : List Loc, y = [] := ⟨_, rfl⟩
  rw [← el, ← eH] at h ⊢
  unfold f_L_second at hF
  refine lv_iconst (v := 0) hx hb dL_second_0 (by decide) ?_
  refine lv_istore_n (lv' := [(1, .int 0), (0, .ref a0)]) hx hb dL_second_1 rfl hl (by decide) rfl (fun ls hl => ?_)
  refine lv_aload_n hx hb dL_second_2 rfl (lv_at hl 1 rfl) ?_
  refine lv_iconst (v := 0) hx hb dL_second_3 (by decide) ?_
  obtain ⟨r1, σ2, qr1, hF⟩ := bd_u hF
  refine bz_callV (rest := []) (st1 := [.int r1]) C h (As := [.int 0]) (o := some (.int r1)) (τ := σ2) (c_X6_queue (l := l) ka0 (res := (r1, σ2)) qr1) ka0 (by decide) (ci := 6) rfl (cwV 1 hts (bz_gV wd_7_1 wd_7_2 wd_7_3 wd_1_2 wd_7_4) rfl rfl rfl (by decide +kernel) ⟨Nat.le_of_ble_eq_true rfl, Nat.le_of_ble_eq_true rfl⟩) rfl hl.1 rfl (by decide) ⟨Nat.le_of_ble_eq_true rfl, Nat.le_of_ble_eq_true rfl⟩ dL_second_4 rfl (fun H locs h => ?_)
  refine lv_istore_n (lv' := [(2, .int r1), (1, .int 0), (0, .ref a0)]) hx hb dL_second_7 rfl hl (by decide) rfl (fun ls hl => ?_)
  refine L_L_second_L8 C hlocks hr ka0 _ _ _ _ H locs ls hF h (lv_sub hl [2, 1, 0] rfl) ?_
  intro x10 x11 σ12 H locs ls hF h hl
  refine lv_aload_n hx hb dL_second_32 rfl (lv_at hl 0 rfl) ?_
  refine lv_iconst (v := 5) hx hb dL_second_33 (by decide) ?_
  obtain ⟨r13, σ14, qr13, hF⟩ := bd_u hF
  refine bz_callV (rest := []) (st1 := [.int r13]) C h (As := [.int 5]) (o := some (.int r13)) (τ := σ14) (c_X6_count (l := l) ka0 (res := (r13, σ14)) qr13) ka0 (by decide) (ci := 6) rfl (cwV 1 hts (bz_gV wd_16_2 wd_16_3 wd_16_4 wd_1_2 wd_16_5) rfl rfl rfl (by decide +kernel) ⟨Nat.le_of_ble_eq_true rfl, Nat.le_of_ble_eq_true rfl⟩) rfl hl.1 rfl (by decide) ⟨Nat.le_of_ble_eq_true rfl, Nat.le_of_ble_eq_true rfl⟩ dL_second_34 rfl (fun H locs h => ?_)
  refine lv_istore_n (lv' := [(3, .int r13), (0, .ref a0), (1, .int x10), (2, .int x11)]) hx hb dL_second_37 rfl hl (by decide) rfl (fun ls hl => ?_)
  refine lv_iload_n hx hb dL_second_38 rfl (lv_at hl 3 rfl) ?_
  obtain ⟨j17, ej17, hF⟩ := lt_j hF
  have hj17 : ∀ (y15 : Int32) (σ16 : bz_W) (H : Heap) (locs : List Loc) (ls : Array Slot), j17 y15 σ16 = some res → bz_H G s σ16 H locs → lv_has ls 8 [(0, .ref a0), (1, .int x10), (2, .int x11), (3, .int r13)] → W p l e ({ frames := 8, cells := 0, slots := 0, locals := 184 } : Room) s m args below meth c H locs 0 0 (MQ below (bz_Qc G (some (.int res.1)) res.2) args s 0 0 (bz_A G)) (F0 m 52 ls [.int y15]) := by
      intro y15 σ16 H locs ls hF h hl
      subst ej17
      refine lv_istore (lv' := [(4, .int y15), (0, .ref a0), (1, .int x10), (2, .int x11), (3, .int r13)]) hx hb dL_second_52 hl (by decide) rfl (fun ls hl => ?_)
      refine lv_aload_n hx hb dL_second_54 rfl (lv_at hl 1 rfl) ?_
      obtain ⟨r18, σ19, qr18, hF⟩ := bd_u hF
      refine bz_callS (rest := []) (st1 := [.int r18]) C h (As := [.ref a0]) (o := some (.int r18)) (τ := σ19) (c_L_passedOver (l := l) ka0 (res := (r18, σ19)) qr18) (va_cwS 1 hts (bz_gS wd_24_7 wd_24_8 wd_20_14 wd_24_9) rfl rfl rfl (by decide +kernel) ⟨Nat.le_of_ble_eq_true rfl, Nat.le_of_ble_eq_true rfl⟩) rfl hl.1 rfl (by decide) ⟨Nat.le_of_ble_eq_true rfl, Nat.le_of_ble_eq_true rfl⟩ dL_second_55 rfl (fun H locs h => ?_)
      refine lv_istore (lv' := [(5, .int r18), (4, .int y15), (0, .ref a0), (1, .int x10), (2, .int x11), (3, .int r13)]) hx hb dL_second_58 hl (by decide) rfl (fun ls hl => ?_)
      refine lv_aload_n hx hb dL_second_60 rfl (lv_at hl 2 rfl) ?_
      refine lv_iconst (v := 2) hx hb dL_second_61 (by decide) ?_
      obtain ⟨r20, σ21, qr20, hF⟩ := bd_u hF
      refine bz_callV (rest := []) (st1 := [.int r20]) C h (As := [.int 2]) (o := some (.int r20)) (τ := σ21) (c_X6_count (l := l) ka0 (res := (r20, σ21)) qr20) ka0 (by decide) (ci := 6) rfl (cwV 1 hts (bz_gV wd_16_2 wd_16_3 wd_16_4 wd_1_2 wd_16_5) rfl rfl rfl (by decide +kernel) ⟨Nat.le_of_ble_eq_true rfl, Nat.le_of_ble_eq_true rfl⟩) rfl hl.1 rfl (by decide) ⟨Nat.le_of_ble_eq_true rfl, Nat.le_of_ble_eq_true rfl⟩ dL_second_62 rfl (fun H locs h => ?_)
      refine lv_istore (lv' := [(6, .int r20), (5, .int r18), (4, .int y15), (0, .ref a0), (1, .int x10), (2, .int x11), (3, .int r13)]) hx hb dL_second_65 hl (by decide) rfl (fun ls hl => ?_)
      refine lv_aload_n hx hb dL_second_67 rfl (lv_at hl 3 rfl) ?_
      refine lv_iconst (v := 1) hx hb dL_second_68 (by decide) ?_
      obtain ⟨r22, σ23, qr22, hF⟩ := bd_u hF
      refine bz_callV (rest := []) (st1 := [.int r22]) C h (As := [.int 1]) (o := some (.int r22)) (τ := σ23) (c_X6_pass (l := l) ka0 (res := (r22, σ23)) qr22) ka0 (by decide) (ci := 6) rfl (cwV 1 hts (bz_gV wd_17_15 wd_17_16 wd_17_17 wd_1_2 wd_17_18) rfl rfl rfl (by decide +kernel) ⟨Nat.le_of_ble_eq_true rfl, Nat.le_of_ble_eq_true rfl⟩) rfl hl.1 rfl (by decide) ⟨Nat.le_of_ble_eq_true rfl, Nat.le_of_ble_eq_true rfl⟩ dL_second_69 rfl (fun H locs h => ?_)
      refine lv_istore (lv' := [(7, .int r22), (6, .int r20), (5, .int r18), (4, .int y15), (0, .ref a0), (1, .int x10), (2, .int x11), (3, .int r13)]) hx hb dL_second_72 hl (by decide) rfl (fun ls hl => ?_)
      refine lv_iload hx hb dL_second_74 (lv_at hl 0 rfl) ?_
      refine lv_iload_n hx hb dL_second_76 rfl (lv_at hl 6 rfl) ?_
      obtain ⟨j26, ej26, hF⟩ := lt_j hF
      have hj26 : ∀ (y24 : Int32) (σ25 : bz_W) (H : Heap) (locs : List Loc) (ls : Array Slot), j26 y24 σ25 = some res → bz_H G s σ25 H locs → lv_has ls 8 [(0, .ref a0), (1, .int x10), (2, .int x11), (3, .int r13), (4, .int y15), (5, .int r18), (6, .int r20), (7, .int r22)] → W p l e ({ frames := 8, cells := 0, slots := 0, locals := 184 } : Room) s m args below meth c H locs 0 0 (MQ below (bz_Qc G (some (.int res.1)) res.2) args s 0 0 (bz_A G)) (F0 m 85 ls [.int y24, .int r22]) := by
          intro y24 σ25 H locs ls hF h hl
          subst ej26
          refine lv_icmp_ne (tgt := 118) hx hb dL_second_85 (by decide) (fun c27 => ?_) (fun c27 => ?_)
          · have hF := it_f hF c27
            refine lv_iconst (v := 0) hx hb dL_second_118 (by decide) ?_
            exact bz_zret C h hlocks hr (by decide) hF dL_second_119
          · have hF := it_t hF c27
            refine lv_aload_n hx hb dL_second_88 rfl (lv_at hl 0 rfl) ?_
            refine lv_iconst (v := 5) hx hb dL_second_89 (by decide) ?_
            obtain ⟨r28, σ29, qr28, hF⟩ := bd_u hF
            refine bz_callV (rest := []) (st1 := [.int r28]) C h (As := [.int 5]) (o := some (.int r28)) (τ := σ29) (c_X6_count (l := l) ka0 (res := (r28, σ29)) qr28) ka0 (by decide) (ci := 6) rfl (cwV 1 hts (bz_gV wd_16_2 wd_16_3 wd_16_4 wd_1_2 wd_16_5) rfl rfl rfl (by decide +kernel) ⟨Nat.le_of_ble_eq_true rfl, Nat.le_of_ble_eq_true rfl⟩) rfl hl.1 rfl (by decide) ⟨Nat.le_of_ble_eq_true rfl, Nat.le_of_ble_eq_true rfl⟩ dL_second_90 rfl (fun H locs h => ?_)
            refine lv_iload_n hx hb dL_second_93 rfl (lv_at hl 3 rfl) ?_
            refine lv_iconst (v := 1) hx hb dL_second_94 (by decide) ?_
            refine lv_iadd hx hb dL_second_95 ?_
            refine lv_icmp_ne (tgt := 118) hx hb dL_second_96 (by decide) (fun c30 => ?_) (fun c30 => ?_)
            · have hF := it_f hF c30
              refine lv_iconst (v := 0) hx hb dL_second_118 (by decide) ?_
              exact bz_zret C h hlocks hr (by decide) hF dL_second_119
            · have hF := it_t hF c30
              refine lv_aload_n hx hb dL_second_99 rfl (lv_at hl 0 rfl) ?_
              obtain ⟨r31, σ32, qr31, hF⟩ := bd_u hF
              refine bz_callS (rest := []) (st1 := [.int r31]) C h (As := [.ref a0]) (o := some (.int r31)) (τ := σ32) (c_L_passedOver (l := l) ka0 (res := (r31, σ32)) qr31) (va_cwS 1 hts (bz_gS wd_24_7 wd_24_8 wd_20_14 wd_24_9) rfl rfl rfl (by decide +kernel) ⟨Nat.le_of_ble_eq_true rfl, Nat.le_of_ble_eq_true rfl⟩) rfl hl.1 rfl (by decide) ⟨Nat.le_of_ble_eq_true rfl, Nat.le_of_ble_eq_true rfl⟩ dL_second_100 rfl (fun H locs h => ?_)
              refine lv_iload hx hb dL_second_103 (lv_at hl 5 rfl) ?_
              refine lv_iload_n hx hb dL_second_105 rfl (lv_at hl 2 rfl) ?_
              obtain ⟨j35, ej35, hF⟩ := lt_j hF
              have hj35 : ∀ (y33 : Int32) (σ34 : bz_W) (H : Heap) (locs : List Loc) (ls : Array Slot), j35 y33 σ34 = some res → bz_H G s σ34 H locs → lv_has ls 8 [(0, .ref a0), (2, .int x11), (4, .int y15), (6, .int r20), (7, .int r22)] → W p l e ({ frames := 8, cells := 0, slots := 0, locals := 184 } : Room) s m args below meth c H locs 0 0 (MQ below (bz_Qc G (some (.int res.1)) res.2) args s 0 0 (bz_A G)) (F0 m 114 ls [.int y33, .int r18, .int r31]) := by
                  intro y33 σ34 H locs ls hF h hl
                  subst ej35
                  refine lv_iadd hx hb dL_second_114 ?_
                  refine lv_icmp_eq (tgt := 120) hx hb dL_second_115 (by decide) (fun c36 => ?_) (fun c36 => ?_)
                  · have hF := it_t hF c36
                    refine lv_iload_n hx hb dL_second_120 rfl (lv_at hl 1 rfl) ?_
                    obtain ⟨j38, ej38, hF⟩ := lt_j hF
                    have hj38 : ∀ (σ37 : bz_W) (H : Heap) (locs : List Loc) (ls : Array Slot), j38 σ37 = some res → bz_H G s σ37 H locs → lv_has ls 8 [(0, .ref a0), (6, .int r20), (7, .int r22)] → W p l e ({ frames := 8, cells := 0, slots := 0, locals := 184 } : Room) s m args below meth c H locs 0 0 (MQ below (bz_Qc G (some (.int res.1)) res.2) args s 0 0 (bz_A G)) (F0 m 137 ls []) := by
                        intro σ37 H locs ls hF h hl
                        subst ej38
                        refine lv_aload_n hx hb dL_second_137 rfl (lv_at hl 0 rfl) ?_
                        refine lv_iconst (v := 2) hx hb dL_second_138 (by decide) ?_
                        obtain ⟨r39, σ40, qr39, hF⟩ := bd_u hF
                        refine bz_callV (rest := []) (st1 := [.int r39]) C h (As := [.int 2]) (o := some (.int r39)) (τ := σ40) (c_X6_count (l := l) ka0 (res := (r39, σ40)) qr39) ka0 (by decide) (ci := 6) rfl (cwV 1 hts (bz_gV wd_16_2 wd_16_3 wd_16_4 wd_1_2 wd_16_5) rfl rfl rfl (by decide +kernel) ⟨Nat.le_of_ble_eq_true rfl, Nat.le_of_ble_eq_true rfl⟩) rfl hl.1 rfl (by decide) ⟨Nat.le_of_ble_eq_true rfl, Nat.le_of_ble_eq_true rfl⟩ dL_second_139 rfl (fun H locs h => ?_)
                        refine lv_iload hx hb dL_second_142 (lv_at hl 1 rfl) ?_
                        refine lv_iload hx hb dL_second_144 (lv_at hl 2 rfl) ?_
                        refine lv_iadd hx hb dL_second_146 ?_
                        refine lv_icmp_gt (tgt := 154) hx hb dL_second_147 (by decide) (fun c41 => ?_) (fun c41 => ?_)
                        · have hF := it_t hF c41
                          refine lv_iconst (v := 0) hx hb dL_second_154 (by decide) ?_
                          exact bz_zret C h hlocks hr (by decide) hF dL_second_155
                        · have hF := it_f hF c41
                          refine lv_iconst (v := 1) hx hb dL_second_150 (by decide) ?_
                          refine lv_goto (tgt := 155) hx hb dL_second_151 (by decide) ?_
                          exact bz_zret C h hlocks hr (by decide) hF dL_second_155
                    refine lv_if_lt (tgt := 137) hx hb dL_second_121 (by decide) (fun c42 => ?_) (fun c42 => ?_)
                    · have hF := it_t hF c42
                      exact hj38 _ H locs ls hF h (lv_sub hl [0, 3, 4] rfl)
                    · have hF := it_f hF c42
                      refine lv_aload_n hx hb dL_second_124 rfl (lv_at hl 0 rfl) ?_
                      refine lv_iload_n hx hb dL_second_125 rfl (lv_at hl 1 rfl) ?_
                      refine lv_iconst (v := 2) hx hb dL_second_126 (by decide) ?_
                      obtain ⟨r43, σ44, qr43, hF⟩ := bd_u hF
                      refine bz_callV (rest := []) (st1 := [.int r43]) C h (As := [.int x11, .int 2]) (o := some (.int r43)) (τ := σ44) (c_X6_account (l := l) ka0 (res := (r43, σ44)) qr43) ka0 (by decide) (ci := 6) rfl (cwV 2 hts (bz_gV wd_21_18 wd_21_19 wd_21_20 wd_1_2 wd_21_21) rfl rfl rfl (by decide +kernel) ⟨Nat.le_of_ble_eq_true rfl, Nat.le_of_ble_eq_true rfl⟩) rfl hl.1 rfl (by decide) ⟨Nat.le_of_ble_eq_true rfl, Nat.le_of_ble_eq_true rfl⟩ dL_second_127 rfl (fun H locs h => ?_)
                      refine lv_iload hx hb dL_second_130 (lv_at hl 2 rfl) ?_
                      refine lv_iconst (v := 1) hx hb dL_second_132 (by decide) ?_
                      refine lv_iadd hx hb dL_second_133 ?_
                      refine lv_icmp_ne (tgt := 154) hx hb dL_second_134 (by decide) (fun c45 => ?_) (fun c45 => ?_)
                      · have hF := it_f hF c45
                        refine lv_iconst (v := 0) hx hb dL_second_154 (by decide) ?_
                        exact bz_zret C h hlocks hr (by decide) hF dL_second_155
                      · have hF := it_t hF c45
                        exact hj38 _ H locs ls hF h (lv_sub hl [0, 3, 4] rfl)
                  · have hF := it_f hF c36
                    refine lv_iconst (v := 0) hx hb dL_second_118 (by decide) ?_
                    exact bz_zret C h hlocks hr (by decide) hF dL_second_119
              refine lv_if_ge (tgt := 113) hx hb dL_second_106 (by decide) (fun c46 => ?_) (fun c46 => ?_)
              · have hF := it_t hF c46
                refine lv_iload_n hx hb dL_second_113 rfl (lv_at hl 1 rfl) ?_
                exact hj35 _ _ H locs ls hF h (lv_sub hl [0, 2, 4, 6, 7] rfl)
              · have hF := it_f hF c46
                refine lv_iconst (v := 0) hx hb dL_second_109 (by decide) ?_
                refine lv_goto (tgt := 114) hx hb dL_second_110 (by decide) ?_
                exact hj35 _ _ H locs ls hF h (lv_sub hl [0, 2, 4, 6, 7] rfl)
      refine lv_if_ge (tgt := 84) hx hb dL_second_77 (by decide) (fun c47 => ?_) (fun c47 => ?_)
      · have hF := it_t hF c47
        refine lv_iconst (v := 1) hx hb dL_second_84 (by decide) ?_
        exact hj26 _ _ H locs ls hF h (lv_sub hl [4, 5, 6, 7, 3, 2, 1, 0] rfl)
      · have hF := it_f hF c47
        refine lv_iconst (v := 0) hx hb dL_second_80 (by decide) ?_
        refine lv_goto (tgt := 85) hx hb dL_second_81 (by decide) ?_
        exact hj26 _ _ H locs ls hF h (lv_sub hl [4, 5, 6, 7, 3, 2, 1, 0] rfl)
  refine lv_if_ge (tgt := 46) hx hb dL_second_39 (by decide) (fun c48 => ?_) (fun c48 => ?_)
  · have hF := it_t hF c48
    refine lv_aload_n hx hb dL_second_46 rfl (lv_at hl 1 rfl) ?_
    refine lv_iload_n hx hb dL_second_47 rfl (lv_at hl 3 rfl) ?_
    refine lv_iconst (v := 2) hx hb dL_second_48 (by decide) ?_
    obtain ⟨r49, σ50, qr49, hF⟩ := bd_u hF
    refine bz_callV (rest := []) (st1 := [.int r49]) C h (As := [.int x11, .int 2]) (o := some (.int r49)) (τ := σ50) (c_X6_account (l := l) ka0 (res := (r49, σ50)) qr49) ka0 (by decide) (ci := 6) rfl (cwV 2 hts (bz_gV wd_21_18 wd_21_19 wd_21_20 wd_1_2 wd_21_21) rfl rfl rfl (by decide +kernel) ⟨Nat.le_of_ble_eq_true rfl, Nat.le_of_ble_eq_true rfl⟩) rfl hl.1 rfl (by decide) ⟨Nat.le_of_ble_eq_true rfl, Nat.le_of_ble_eq_true rfl⟩ dL_second_49 rfl (fun H locs h => ?_)
    exact hj17 _ _ H locs ls hF h (lv_sub hl [1, 2, 3, 0] rfl)
  · have hF := it_f hF c48
    refine lv_iconst (v := 0) hx hb dL_second_42 (by decide) ?_
    refine lv_goto (tgt := 52) hx hb dL_second_43 (by decide) ?_
    exact hj17 _ _ H locs ls hF h (lv_sub hl [1, 2, 3, 0] rfl)
set_option maxHeartbeats 4000000 in
set_option maxRecDepth 100000 in
theorem c_L_parts {l : Launch} {G : bz_G} {σ : bz_W} {a0 : Nat} {x1_ : Int32} {x2_ : Int32} (ka0 : bz_k G a0 = (7, 0)) {res : Int32 × bz_W} (hF : f_L_parts σ a0 x1_ x2_ = some res) : bz_M l yL_parts wz_L_parts 8 184 G σ [.ref a0, .int x1_, .int x2_] (some (.int res.1)) res.2 := by
  refine bz_mk (cc := cL_parts) (maxL := 8) (ret := (some .boolean)) (own := RL) (by decide) rfl rfl (Nat.le_of_ble_eq_true rfl) ?_
  intro p e s m args below meth c ls C hlocks hr h hl
  have hx := C.1
  have hb := C.2.1
  have hts := C.2.2.2.2.1
  have hl : lv_has ls 8 [(0, .ref a0), (1, .int x1_), (2, .int x2_)] := hl
  obtain ⟨H, eH⟩ : ∃ y, y = s.heap := ⟨_, rfl⟩
  obtain ⟨locs, el⟩ : ∃ y : List Loc, y = [] := ⟨_, rfl⟩
  rw [← el, ← eH] at h ⊢
  unfold f_L_parts at hF
  refine lv_aload_n hx hb dL_parts_0 rfl (lv_at hl 0 rfl) ?_
  refine lv_iconst (v := 5) hx hb dL_parts_1 (by decide) ?_
  obtain ⟨r1, σ2, qr1, hF⟩ := bd_u hF
  refine bz_callV (rest := []) (st1 := [.int r1]) C h (As := [.int 5]) (o := some (.int r1)) (τ := σ2) (c_X6_count (l := l) ka0 (res := (r1, σ2)) qr1) ka0 (by decide) (ci := 6) rfl (cwV 1 hts (bz_gV wd_16_2 wd_16_3 wd_16_4 wd_1_2 wd_16_5) rfl rfl rfl (by decide +kernel) ⟨Nat.le_of_ble_eq_true rfl, Nat.le_of_ble_eq_true rfl⟩) rfl hl.1 rfl (by decide) ⟨Nat.le_of_ble_eq_true rfl, Nat.le_of_ble_eq_true rfl⟩ dL_parts_2 rfl (fun H locs h => ?_)
  refine lv_istore_n (lv' := [(3, .int r1), (0, .ref a0), (1, .int x1_), (2, .int x2_)]) hx hb dL_parts_5 rfl hl (by decide) rfl (fun ls hl => ?_)
  refine lv_aload_n hx hb dL_parts_6 rfl (lv_at hl 1 rfl) ?_
  obtain ⟨r3, σ4, qr3, hF⟩ := bd_u hF
  refine bz_callV (rest := []) (st1 := [.int r3]) C h (As := []) (o := some (.int r3)) (τ := σ4) (c_X6_keep (l := l) ka0 (res := (r3, σ4)) qr3) ka0 (by decide) (ci := 6) rfl (cwV 0 hts (bz_gV wd_23_20 wd_23_21 wd_23_22 wd_1_2 wd_23_23) rfl rfl rfl (by decide +kernel) ⟨Nat.le_of_ble_eq_true rfl, Nat.le_of_ble_eq_true rfl⟩) rfl hl.1 rfl (by decide) ⟨Nat.le_of_ble_eq_true rfl, Nat.le_of_ble_eq_true rfl⟩ dL_parts_7 rfl (fun H locs h => ?_)
  refine lv_iload_n hx hb dL_parts_10 rfl (lv_at hl 0 rfl) ?_
  refine lv_icmp_eq (tgt := 16) hx hb dL_parts_11 (by decide) (fun c5 => ?_) (fun c5 => ?_)
  · have hF := it_t hF c5
    refine lv_aload_n hx hb dL_parts_16 rfl (lv_at hl 1 rfl) ?_
    refine lv_iload_n hx hb dL_parts_17 rfl (lv_at hl 2 rfl) ?_
    refine lv_iload_n hx hb dL_parts_18 rfl (lv_at hl 3 rfl) ?_
    refine lv_iadd hx hb dL_parts_19 ?_
    obtain ⟨r6, σ7, qr6, hF⟩ := bd_u hF
    refine bz_callV (rest := []) (st1 := [.int r6]) C h (As := [.int (x1_ + x2_)]) (o := some (.int r6)) (τ := σ7) (c_X6_pass (l := l) ka0 (res := (r6, σ7)) qr6) ka0 (by decide) (ci := 6) rfl (cwV 1 hts (bz_gV wd_17_15 wd_17_16 wd_17_17 wd_1_2 wd_17_18) rfl rfl rfl (by decide +kernel) ⟨Nat.le_of_ble_eq_true rfl, Nat.le_of_ble_eq_true rfl⟩) rfl hl.1 rfl (by decide) ⟨Nat.le_of_ble_eq_true rfl, Nat.le_of_ble_eq_true rfl⟩ dL_parts_20 rfl (fun H locs h => ?_)
    refine lv_istore (lv' := [(4, .int r6), (3, .int r1), (0, .ref a0), (1, .int x1_), (2, .int x2_)]) hx hb dL_parts_23 hl (by decide) rfl (fun ls hl => ?_)
    refine lv_aload_n hx hb dL_parts_25 rfl (lv_at hl 2 rfl) ?_
    obtain ⟨r8, σ9, qr8, hF⟩ := bd_u hF
    refine bz_callS (rest := []) (st1 := [.long r8]) C h (As := [.ref a0]) (o := some (.long r8)) (τ := σ9) (c_L_digest (l := l) ka0 (res := (r8, σ9)) qr8) (va_cwS 1 hts (bz_gS wd_20_21 wd_20_22 wd_20_14 wd_20_23) rfl rfl rfl (by decide +kernel) ⟨Nat.le_of_ble_eq_true rfl, Nat.le_of_ble_eq_true rfl⟩) rfl hl.1 rfl (by decide) ⟨Nat.le_of_ble_eq_true rfl, Nat.le_of_ble_eq_true rfl⟩ dL_parts_26 rfl (fun H locs h => ?_)
    refine lv_lstore (lv' := [(5, .long r8), (4, .int r6), (3, .int r1), (0, .ref a0), (1, .int x1_), (2, .int x2_)]) hx hb dL_parts_29 hl (by decide) rfl (fun ls hl => ?_)
    refine lv_aload_n hx hb dL_parts_31 rfl (lv_at hl 3 rfl) ?_
    obtain ⟨r10, σ11, qr10, hF⟩ := bd_u hF
    refine bz_callV (rest := []) (st1 := [.int r10]) C h (As := []) (o := some (.int r10)) (τ := σ11) (c_X6_restore (l := l) ka0 (res := (r10, σ11)) qr10) ka0 (by decide) (ci := 6) rfl (cwV 0 hts (bz_gV wd_6_10 wd_6_11 wd_6_12 wd_1_2 wd_6_13) rfl rfl rfl (by decide +kernel) ⟨Nat.le_of_ble_eq_true rfl, Nat.le_of_ble_eq_true rfl⟩) rfl hl.1 rfl (by decide) ⟨Nat.le_of_ble_eq_true rfl, Nat.le_of_ble_eq_true rfl⟩ dL_parts_32 rfl (fun H locs h => ?_)
    refine lv_iload_n hx hb dL_parts_35 rfl (lv_at hl 2 rfl) ?_
    refine lv_icmp_eq (tgt := 41) hx hb dL_parts_36 (by decide) (fun c12 => ?_) (fun c12 => ?_)
    · have hF := it_t hF c12
      refine lv_aload_n hx hb dL_parts_41 rfl (lv_at hl 3 rfl) ?_
      refine lv_iload_n hx hb dL_parts_42 rfl (lv_at hl 4 rfl) ?_
      obtain ⟨r13, σ14, qr13, hF⟩ := bd_u hF
      refine bz_callV (rest := []) (st1 := [.int r13]) C h (As := [.int x1_]) (o := some (.int r13)) (τ := σ14) (c_X6_pass (l := l) ka0 (res := (r13, σ14)) qr13) ka0 (by decide) (ci := 6) rfl (cwV 1 hts (bz_gV wd_17_15 wd_17_16 wd_17_17 wd_1_2 wd_17_18) rfl rfl rfl (by decide +kernel) ⟨Nat.le_of_ble_eq_true rfl, Nat.le_of_ble_eq_true rfl⟩) rfl hl.1 rfl (by decide) ⟨Nat.le_of_ble_eq_true rfl, Nat.le_of_ble_eq_true rfl⟩ dL_parts_43 rfl (fun H locs h => ?_)
      refine lv_istore (lv' := [(7, .int r13), (5, .long r8), (4, .int r6), (3, .int r1), (0, .ref a0), (1, .int x1_), (2, .int x2_)]) hx hb dL_parts_46 hl (by decide) rfl (fun ls hl => ?_)
      refine lv_iload hx hb dL_parts_48 (lv_at hl 0 rfl) ?_
      refine lv_aload_n hx hb dL_parts_50 rfl (lv_at hl 4 rfl) ?_
      refine lv_iload_n hx hb dL_parts_51 rfl (lv_at hl 6 rfl) ?_
      obtain ⟨r15, σ16, qr15, hF⟩ := bd_u hF
      refine bz_callV (rest := [.int r13]) (st1 := [.int r15, .int r13]) C h (As := [.int x2_]) (o := some (.int r15)) (τ := σ16) (c_X6_pass (l := l) ka0 (res := (r15, σ16)) qr15) ka0 (by decide) (ci := 6) rfl (cwV 1 hts (bz_gV wd_17_15 wd_17_16 wd_17_17 wd_1_2 wd_17_18) rfl rfl rfl (by decide +kernel) ⟨Nat.le_of_ble_eq_true rfl, Nat.le_of_ble_eq_true rfl⟩) rfl hl.1 rfl (Nat.le_of_ble_eq_true rfl) ⟨Nat.le_of_ble_eq_true rfl, Nat.le_of_ble_eq_true rfl⟩ dL_parts_52 rfl (fun H locs h => ?_)
      refine lv_iadd hx hb dL_parts_55 ?_
      refine lv_iload hx hb dL_parts_56 (lv_at hl 2 rfl) ?_
      refine lv_icmp_ne (tgt := 75) hx hb dL_parts_58 (by decide) (fun c17 => ?_) (fun c17 => ?_)
      · have hF := it_f hF c17
        refine lv_iconst (v := 0) hx hb dL_parts_75 (by decide) ?_
        exact bz_zret C h hlocks hr (by decide) hF dL_parts_76
      · have hF := it_t hF c17
        refine lv_aload_n hx hb dL_parts_61 rfl (lv_at hl 4 rfl) ?_
        obtain ⟨r18, σ19, qr18, hF⟩ := bd_u hF
        refine bz_callS (rest := []) (st1 := [.long r18]) C h (As := [.ref a0]) (o := some (.long r18)) (τ := σ19) (c_L_digest (l := l) ka0 (res := (r18, σ19)) qr18) (va_cwS 1 hts (bz_gS wd_20_21 wd_20_22 wd_20_14 wd_20_23) rfl rfl rfl (by decide +kernel) ⟨Nat.le_of_ble_eq_true rfl, Nat.le_of_ble_eq_true rfl⟩) rfl hl.1 rfl (by decide) ⟨Nat.le_of_ble_eq_true rfl, Nat.le_of_ble_eq_true rfl⟩ dL_parts_62 rfl (fun H locs h => ?_)
        refine lv_lload hx hb dL_parts_65 (lv_at hl 1 rfl) ?_
        refine W.lcmp hx hb dL_parts_67 ?_
        refine lv_if_ne (tgt := 75) hx hb dL_parts_68 (by decide) (fun c20 => ?_) (fun c20 => ?_)
        · have hF := it_f hF c20
          refine lv_iconst (v := 0) hx hb dL_parts_75 (by decide) ?_
          exact bz_zret C h hlocks hr (by decide) hF dL_parts_76
        · have hF := it_t hF c20
          refine lv_iconst (v := 1) hx hb dL_parts_71 (by decide) ?_
          refine lv_goto (tgt := 76) hx hb dL_parts_72 (by decide) ?_
          exact bz_zret C h hlocks hr (by decide) hF dL_parts_76
    · have hF := it_f hF c12
      refine lv_iconst (v := 0) hx hb dL_parts_39 (by decide) ?_
      exact bz_zret C h hlocks hr (by decide) hF dL_parts_40
  · have hF := it_f hF c5
    refine lv_iconst (v := 0) hx hb dL_parts_14 (by decide) ?_
    exact bz_zret C h hlocks hr (by decide) hF dL_parts_15
set_option maxHeartbeats 4000000 in
set_option maxRecDepth 100000 in
theorem c_L_orders {l : Launch} {G : bz_G} {σ : bz_W} {a0 : Nat} {x1_ : Int32} {x2_ : Int32} {x3_ : Int32} (ka0 : bz_k G a0 = (7, 0)) {res : Int32 × bz_W} (hF : f_L_orders σ a0 x1_ x2_ x3_ = some res) : bz_M l yL_orders wz_L_orders 7 161 G σ [.ref a0, .int x1_, .int x2_, .int x3_] (some (.int res.1)) res.2 := by
  refine bz_mk (cc := cL_orders) (maxL := 9) (ret := (some .boolean)) (own := RL) (by decide) rfl rfl (Nat.le_of_ble_eq_true rfl) ?_
  intro p e s m args below meth c ls C hlocks hr h hl
  have hx := C.1
  have hb := C.2.1
  have hts := C.2.2.2.2.1
  have hl : lv_has ls 9 [(0, .ref a0), (1, .int x1_), (2, .int x2_), (3, .int x3_)] := hl
  obtain ⟨H, eH⟩ : ∃ y, y = s.heap := ⟨_, rfl⟩
  obtain ⟨locs, el⟩ : ∃ y : List Loc, y = [] := ⟨_, rfl⟩
  rw [← el, ← eH] at h ⊢
  unfold f_L_orders at hF
  refine lv_aload_n hx hb dL_orders_0 rfl (lv_at hl 0 rfl) ?_
  refine lv_iload_n hx hb dL_orders_1 rfl (lv_at hl 2 rfl) ?_
  refine lv_iconst (v := 5) hx hb dL_orders_2 (by decide) ?_
  obtain ⟨r1, σ2, qr1, hF⟩ := bd_u hF
  refine bz_callV (rest := []) (st1 := [.int r1]) C h (As := [.int x2_, .int 5]) (o := some (.int r1)) (τ := σ2) (c_X6_motor (l := l) ka0 (res := (r1, σ2)) qr1) ka0 (by decide) (ci := 6) rfl (cwV 2 hts (bz_gV wd_21_4 wd_21_5 wd_21_6 wd_1_2 wd_21_7) rfl rfl rfl (by decide +kernel) ⟨Nat.le_of_ble_eq_true rfl, Nat.le_of_ble_eq_true rfl⟩) rfl hl.1 rfl (by decide) ⟨Nat.le_of_ble_eq_true rfl, Nat.le_of_ble_eq_true rfl⟩ dL_orders_3 rfl (fun H locs h => ?_)
  refine lv_istore (lv' := [(4, .int r1), (0, .ref a0), (1, .int x1_), (2, .int x2_), (3, .int x3_)]) hx hb dL_orders_6 hl (by decide) rfl (fun ls hl => ?_)
  refine lv_aload_n hx hb dL_orders_8 rfl (lv_at hl 1 rfl) ?_
  refine lv_iload_n hx hb dL_orders_9 rfl (lv_at hl 3 rfl) ?_
  refine lv_bipush (v := 7) hx hb dL_orders_10 (by decide) ?_
  obtain ⟨r3, σ4, qr3, hF⟩ := bd_u hF
  refine bz_callV (rest := []) (st1 := [.int r3]) C h (As := [.int x2_, .int 7]) (o := some (.int r3)) (τ := σ4) (c_X6_motor (l := l) ka0 (res := (r3, σ4)) qr3) ka0 (by decide) (ci := 6) rfl (cwV 2 hts (bz_gV wd_21_4 wd_21_5 wd_21_6 wd_1_2 wd_21_7) rfl rfl rfl (by decide +kernel) ⟨Nat.le_of_ble_eq_true rfl, Nat.le_of_ble_eq_true rfl⟩) rfl hl.1 rfl (by decide) ⟨Nat.le_of_ble_eq_true rfl, Nat.le_of_ble_eq_true rfl⟩ dL_orders_12 rfl (fun H locs h => ?_)
  refine lv_istore (lv' := [(5, .int r3), (4, .int r1), (0, .ref a0), (1, .int x1_), (2, .int x2_), (3, .int x3_)]) hx hb dL_orders_15 hl (by decide) rfl (fun ls hl => ?_)
  refine lv_iload_n hx hb dL_orders_17 rfl (lv_at hl 3 rfl) ?_
  refine lv_bipush (v := 7) hx hb dL_orders_18 (by decide) ?_
  refine lv_icmp_ge (tgt := 91) hx hb dL_orders_20 (by decide) (fun c5 => ?_) (fun c5 => ?_)
  · have hF := it_t hF c5
    refine lv_iload_n hx hb dL_orders_91 rfl (lv_at hl 3 rfl) ?_
    refine lv_bipush (v := 7) hx hb dL_orders_92 (by decide) ?_
    refine lv_icmp_ne (tgt := 172) hx hb dL_orders_94 (by decide) (fun c6 => ?_) (fun c6 => ?_)
    · have hF := it_f hF c6
      refine lv_iload_n hx hb dL_orders_172 rfl (lv_at hl 3 rfl) ?_
      refine lv_bipush (v := 8) hx hb dL_orders_173 (by decide) ?_
      refine lv_icmp_ne (tgt := 318) hx hb dL_orders_175 (by decide) (fun c7 => ?_) (fun c7 => ?_)
      · have hF := it_f hF c7
        refine lv_aload_n hx hb dL_orders_318 rfl (lv_at hl 2 rfl) ?_
        refine lv_iload_n hx hb dL_orders_319 rfl (lv_at hl 4 rfl) ?_
        refine lv_bipush (v := 6) hx hb dL_orders_320 (by decide) ?_
        obtain ⟨r8, σ9, qr8, hF⟩ := bd_u hF
        refine bz_callV (rest := []) (st1 := [.int r8]) C h (As := [.int x2_, .int 6]) (o := some (.int r8)) (τ := σ9) (c_X6_motor (l := l) ka0 (res := (r8, σ9)) qr8) ka0 (by decide) (ci := 6) rfl (cwV 2 hts (bz_gV wd_21_4 wd_21_5 wd_21_6 wd_1_2 wd_21_7) rfl rfl rfl (by decide +kernel) ⟨Nat.le_of_ble_eq_true rfl, Nat.le_of_ble_eq_true rfl⟩) rfl hl.1 rfl (by decide) ⟨Nat.le_of_ble_eq_true rfl, Nat.le_of_ble_eq_true rfl⟩ dL_orders_322 rfl (fun H locs h => ?_)
        refine lv_istore (lv' := [(6, .int r8), (5, .int r3), (4, .int r1), (0, .ref a0), (1, .int x1_), (2, .int x2_), (3, .int x3_)]) hx hb dL_orders_325 hl (by decide) rfl (fun ls hl => ?_)
        refine lv_iload hx hb dL_orders_327 (lv_at hl 2 rfl) ?_
        refine lv_iconst (v := 4) hx hb dL_orders_329 (by decide) ?_
        obtain ⟨j12, ej12, hF⟩ := lt_j hF
        have hj12 : ∀ (y10 : Int32) (σ11 : bz_W) (H : Heap) (locs : List Loc) (ls : Array Slot), j12 y10 σ11 = some res → bz_H G s σ11 H locs → lv_has ls 9 [(0, .ref a0), (2, .int x2_), (6, .int r8)] → W p l e ({ frames := 7, cells := 0, slots := 0, locals := 161 } : Room) s m args below meth c H locs 0 0 (MQ below (bz_Qc G (some (.int res.1)) res.2) args s 0 0 (bz_A G)) (F0 m 364 ls [.int y10]) := by
            intro y10 σ11 H locs ls hF h hl
            subst ej12
            refine lv_istore (lv' := [(7, .int y10), (0, .ref a0), (2, .int x2_), (6, .int r8)]) hx hb dL_orders_364 hl (by decide) rfl (fun ls hl => ?_)
            refine lv_aload_n hx hb dL_orders_366 rfl (lv_at hl 1 rfl) ?_
            refine lv_iload_n hx hb dL_orders_367 rfl (lv_at hl 2 rfl) ?_
            obtain ⟨r13, σ14, qr13, hF⟩ := bd_u hF
            refine bz_callV (rest := []) (st1 := [.int r13]) C h (As := [.int x2_]) (o := some (.int r13)) (τ := σ14) (c_X6_reset (l := l) ka0 (res := (r13, σ14)) qr13) ka0 (by decide) (ci := 6) rfl (cwV 1 hts (bz_gV wd_23_13 wd_23_14 wd_23_15 wd_1_2 wd_23_16) rfl rfl rfl (by decide +kernel) ⟨Nat.le_of_ble_eq_true rfl, Nat.le_of_ble_eq_true rfl⟩) rfl hl.1 rfl (by decide) ⟨Nat.le_of_ble_eq_true rfl, Nat.le_of_ble_eq_true rfl⟩ dL_orders_368 rfl (fun H locs h => ?_)
            refine lv_istore (lv' := [(8, .int r13), (7, .int y10), (0, .ref a0), (2, .int x2_), (6, .int r8)]) hx hb dL_orders_371 hl (by decide) rfl (fun ls hl => ?_)
            refine lv_iload hx hb dL_orders_373 (lv_at hl 1 rfl) ?_
            refine lv_if_le (tgt := 404) hx hb dL_orders_375 (by decide) (fun c15 => ?_) (fun c15 => ?_)
            · have hF := it_t hF c15
              refine lv_iload hx hb dL_orders_404 (lv_at hl 0 rfl) ?_
              refine lv_iload hx hb dL_orders_406 (lv_at hl 4 rfl) ?_
              refine lv_icmp_ne (tgt := 435) hx hb dL_orders_408 (by decide) (fun c16 => ?_) (fun c16 => ?_)
              · have hF := it_f hF c16
                refine lv_iconst (v := 0) hx hb dL_orders_435 (by decide) ?_
                exact bz_zret C h hlocks hr (by decide) hF dL_orders_436
              · have hF := it_t hF c16
                refine lv_aload_n hx hb dL_orders_411 rfl (lv_at hl 2 rfl) ?_
                refine lv_iload_n hx hb dL_orders_412 rfl (lv_at hl 3 rfl) ?_
                refine lv_iconst (v := 5) hx hb dL_orders_413 (by decide) ?_
                obtain ⟨r17, σ18, qr17, hF⟩ := bd_u hF
                refine bz_callV (rest := []) (st1 := [.int r17]) C h (As := [.int x2_, .int 5]) (o := some (.int r17)) (τ := σ18) (c_X6_motor (l := l) ka0 (res := (r17, σ18)) qr17) ka0 (by decide) (ci := 6) rfl (cwV 2 hts (bz_gV wd_21_4 wd_21_5 wd_21_6 wd_1_2 wd_21_7) rfl rfl rfl (by decide +kernel) ⟨Nat.le_of_ble_eq_true rfl, Nat.le_of_ble_eq_true rfl⟩) rfl hl.1 rfl (by decide) ⟨Nat.le_of_ble_eq_true rfl, Nat.le_of_ble_eq_true rfl⟩ dL_orders_414 rfl (fun H locs h => ?_)
                refine lv_if_ne (tgt := 435) hx hb dL_orders_417 (by decide) (fun c19 => ?_) (fun c19 => ?_)
                · have hF := it_f hF c19
                  refine lv_iconst (v := 0) hx hb dL_orders_435 (by decide) ?_
                  exact bz_zret C h hlocks hr (by decide) hF dL_orders_436
                · have hF := it_t hF c19
                  refine lv_aload_n hx hb dL_orders_420 rfl (lv_at hl 2 rfl) ?_
                  refine lv_iconst (v := 0) hx hb dL_orders_421 (by decide) ?_
                  refine lv_iconst (v := 2) hx hb dL_orders_422 (by decide) ?_
                  obtain ⟨r20, σ21, qr20, hF⟩ := bd_u hF
                  refine bz_callV (rest := []) (st1 := [.int r20]) C h (As := [.int 0, .int 2]) (o := some (.int r20)) (τ := σ21) (c_X6_event (l := l) ka0 (res := (r20, σ21)) qr20) ka0 (by decide) (ci := 6) rfl (cwV 2 hts (bz_gV wd_10_20 wd_10_21 wd_10_22 wd_1_2 wd_10_23) rfl rfl rfl (by decide +kernel) ⟨Nat.le_of_ble_eq_true rfl, Nat.le_of_ble_eq_true rfl⟩) rfl hl.1 rfl (by decide) ⟨Nat.le_of_ble_eq_true rfl, Nat.le_of_ble_eq_true rfl⟩ dL_orders_423 rfl (fun H locs h => ?_)
                  refine lv_bipush (v := 6) hx hb dL_orders_426 (by decide) ?_
                  refine lv_icmp_ne (tgt := 435) hx hb dL_orders_428 (by decide) (fun c22 => ?_) (fun c22 => ?_)
                  · have hF := it_f hF c22
                    refine lv_iconst (v := 0) hx hb dL_orders_435 (by decide) ?_
                    exact bz_zret C h hlocks hr (by decide) hF dL_orders_436
                  · have hF := it_t hF c22
                    refine lv_iconst (v := 1) hx hb dL_orders_431 (by decide) ?_
                    refine lv_goto (tgt := 436) hx hb dL_orders_432 (by decide) ?_
                    exact bz_zret C h hlocks hr (by decide) hF dL_orders_436
            · have hF := it_f hF c15
              refine lv_iload hx hb dL_orders_378 (lv_at hl 0 rfl) ?_
              refine lv_bipush (v := (-3)) hx hb dL_orders_380 (by decide) ?_
              refine lv_icmp_ne (tgt := 400) hx hb dL_orders_382 (by decide) (fun c23 => ?_) (fun c23 => ?_)
              · have hF := it_f hF c23
                refine lv_iconst (v := 0) hx hb dL_orders_400 (by decide) ?_
                refine lv_goto (tgt := 436) hx hb dL_orders_401 (by decide) ?_
                exact bz_zret C h hlocks hr (by decide) hF dL_orders_436
              · have hF := it_t hF c23
                refine lv_aload_n hx hb dL_orders_385 rfl (lv_at hl 2 rfl) ?_
                refine lv_bipush (v := 8) hx hb dL_orders_386 (by decide) ?_
                obtain ⟨r24, σ25, qr24, hF⟩ := bd_u hF
                refine bz_callV (rest := []) (st1 := [.int r24]) C h (As := [.int 8]) (o := some (.int r24)) (τ := σ25) (c_X6_count (l := l) ka0 (res := (r24, σ25)) qr24) ka0 (by decide) (ci := 6) rfl (cwV 1 hts (bz_gV wd_16_2 wd_16_3 wd_16_4 wd_1_2 wd_16_5) rfl rfl rfl (by decide +kernel) ⟨Nat.le_of_ble_eq_true rfl, Nat.le_of_ble_eq_true rfl⟩) rfl hl.1 rfl (by decide) ⟨Nat.le_of_ble_eq_true rfl, Nat.le_of_ble_eq_true rfl⟩ dL_orders_388 rfl (fun H locs h => ?_)
                refine lv_iload hx hb dL_orders_391 (lv_at hl 1 rfl) ?_
                refine lv_icmp_ne (tgt := 400) hx hb dL_orders_393 (by decide) (fun c26 => ?_) (fun c26 => ?_)
                · have hF := it_f hF c26
                  refine lv_iconst (v := 0) hx hb dL_orders_400 (by decide) ?_
                  refine lv_goto (tgt := 436) hx hb dL_orders_401 (by decide) ?_
                  exact bz_zret C h hlocks hr (by decide) hF dL_orders_436
                · have hF := it_t hF c26
                  refine lv_iconst (v := 1) hx hb dL_orders_396 (by decide) ?_
                  refine lv_goto (tgt := 436) hx hb dL_orders_397 (by decide) ?_
                  exact bz_zret C h hlocks hr (by decide) hF dL_orders_436
        refine lv_icmp_eq (tgt := 337) hx hb dL_orders_330 (by decide) (fun c27 => ?_) (fun c27 => ?_)
        · have hF := it_t hF c27
          refine lv_iload hx hb dL_orders_337 (lv_at hl 1 rfl) ?_
          refine lv_if_eq (tgt := 346) hx hb dL_orders_339 (by decide) (fun c28 => ?_) (fun c28 => ?_)
          · have hF := it_t hF c28
            refine lv_iload hx hb dL_orders_346 (lv_at hl 0 rfl) ?_
            refine lv_aload_n hx hb dL_orders_348 rfl (lv_at hl 3 rfl) ?_
            refine lv_iload_n hx hb dL_orders_349 rfl (lv_at hl 5 rfl) ?_
            refine lv_iconst (v := 3) hx hb dL_orders_350 (by decide) ?_
            obtain ⟨r29, σ30, qr29, hF⟩ := bd_u hF
            refine bz_callV (rest := [.int r8]) (st1 := [.int r29, .int r8]) C h (As := [.int x2_, .int 3]) (o := some (.int r29)) (τ := σ30) (c_X6_motor (l := l) ka0 (res := (r29, σ30)) qr29) ka0 (by decide) (ci := 6) rfl (cwV 2 hts (bz_gV wd_21_4 wd_21_5 wd_21_6 wd_1_2 wd_21_7) rfl rfl rfl (by decide +kernel) ⟨Nat.le_of_ble_eq_true rfl, Nat.le_of_ble_eq_true rfl⟩) rfl hl.1 rfl (Nat.le_of_ble_eq_true rfl) ⟨Nat.le_of_ble_eq_true rfl, Nat.le_of_ble_eq_true rfl⟩ dL_orders_351 rfl (fun H locs h => ?_)
            refine lv_iconst (v := 2) hx hb dL_orders_354 (by decide) ?_
            refine lv_idiv hx hb dL_orders_355 (by decide) ?_
            refine lv_icmp_le (tgt := 363) hx hb dL_orders_356 (by decide) (fun c31 => ?_) (fun c31 => ?_)
            · have hF := it_t hF c31
              refine lv_iconst (v := 0) hx hb dL_orders_363 (by decide) ?_
              exact hj12 _ _ H locs ls hF h (lv_sub hl [3, 5, 0] rfl)
            · have hF := it_f hF c31
              refine lv_iconst (v := 2) hx hb dL_orders_359 (by decide) ?_
              refine lv_goto (tgt := 364) hx hb dL_orders_360 (by decide) ?_
              exact hj12 _ _ H locs ls hF h (lv_sub hl [3, 5, 0] rfl)
          · have hF := it_f hF c28
            refine lv_iconst (v := 4) hx hb dL_orders_342 (by decide) ?_
            refine lv_goto (tgt := 364) hx hb dL_orders_343 (by decide) ?_
            exact hj12 _ _ H locs ls hF h (lv_sub hl [3, 5, 0] rfl)
        · have hF := it_f hF c27
          refine lv_iconst (v := 1) hx hb dL_orders_333 (by decide) ?_
          refine lv_goto (tgt := 364) hx hb dL_orders_334 (by decide) ?_
          exact hj12 _ _ H locs ls hF h (lv_sub hl [3, 5, 0] rfl)
      · have hF := it_t hF c7
        refine lv_iload_n hx hb dL_orders_178 rfl (lv_at hl 5 rfl) ?_
        refine lv_iconst (v := 3) hx hb dL_orders_179 (by decide) ?_
        refine lv_iand hx hb dL_orders_180 ?_
        obtain ⟨j34, ej34, hF⟩ := lt_j hF
        have hj34 : ∀ (y32 : Int32) (σ33 : bz_W) (H : Heap) (locs : List Loc) (ls : Array Slot), j34 y32 σ33 = some res → bz_H G s σ33 H locs → lv_has ls 9 [(0, .ref a0), (2, .int x2_), (4, .int r1), (5, .int r3)] → W p l e ({ frames := 7, cells := 0, slots := 0, locals := 161 } : Room) s m args below meth c H locs 0 0 (MQ below (bz_Qc G (some (.int res.1)) res.2) args s 0 0 (bz_A G)) (F0 m 196 ls [.int y32]) := by
            intro y32 σ33 H locs ls hF h hl
            subst ej34
            refine lv_istore (lv' := [(6, .int y32), (0, .ref a0), (2, .int x2_), (4, .int r1), (5, .int r3)]) hx hb dL_orders_196 hl (by decide) rfl (fun ls hl => ?_)
            refine lv_aload_n hx hb dL_orders_198 rfl (lv_at hl 1 rfl) ?_
            refine lv_iload_n hx hb dL_orders_199 rfl (lv_at hl 2 rfl) ?_
            refine lv_iload hx hb dL_orders_200 (lv_at hl 0 rfl) ?_
            obtain ⟨r35, σ36, qr35, hF⟩ := bd_u hF
            refine bz_callV (rest := []) (st1 := [.int r35]) C h (As := [.int x2_, .int y32]) (o := some (.int r35)) (τ := σ36) (c_X6_losePhases (l := l) ka0 (res := (r35, σ36)) qr35) ka0 (by decide) (ci := 6) rfl (cwV 2 hts (bz_gV wd_23_9 wd_23_10 wd_23_11 wd_1_2 wd_23_12) rfl rfl rfl (by decide +kernel) ⟨Nat.le_of_ble_eq_true rfl, Nat.le_of_ble_eq_true rfl⟩) rfl hl.1 rfl (by decide) ⟨Nat.le_of_ble_eq_true rfl, Nat.le_of_ble_eq_true rfl⟩ dL_orders_202 rfl (fun H locs h => ?_)
            refine lv_istore (lv' := [(7, .int r35), (6, .int y32), (0, .ref a0), (2, .int x2_), (4, .int r1), (5, .int r3)]) hx hb dL_orders_205 hl (by decide) rfl (fun ls hl => ?_)
            refine lv_iload hx hb dL_orders_207 (lv_at hl 4 rfl) ?_
            refine lv_iconst (v := 2) hx hb dL_orders_209 (by decide) ?_
            obtain ⟨j39, ej39, hF⟩ := lt_j hF
            have hj39 : ∀ (y37 : Int32) (σ38 : bz_W) (H : Heap) (locs : List Loc) (ls : Array Slot), j39 y37 σ38 = some res → bz_H G s σ38 H locs → lv_has ls 9 [(0, .ref a0), (2, .int x2_), (4, .int r1), (5, .int r3), (6, .int y32), (7, .int r35)] → W p l e ({ frames := 7, cells := 0, slots := 0, locals := 161 } : Room) s m args below meth c H locs 0 0 (MQ below (bz_Qc G (some (.int res.1)) res.2) args s 0 0 (bz_A G)) (F0 m 223 ls [.int y37]) := by
                intro y37 σ38 H locs ls hF h hl
                subst ej39
                refine lv_istore (lv' := [(8, .int y37), (0, .ref a0), (2, .int x2_), (4, .int r1), (5, .int r3), (6, .int y32), (7, .int r35)]) hx hb dL_orders_223 hl (by decide) rfl (fun ls hl => ?_)
                refine lv_iload hx hb dL_orders_225 (lv_at hl 5 rfl) ?_
                refine lv_iload hx hb dL_orders_227 (lv_at hl 4 rfl) ?_
                refine lv_icmp_ne (tgt := 247) hx hb dL_orders_229 (by decide) (fun c40 => ?_) (fun c40 => ?_)
                · have hF := it_f hF c40
                  refine lv_iload hx hb dL_orders_247 (lv_at hl 6 rfl) ?_
                  refine lv_iload hx hb dL_orders_249 (lv_at hl 4 rfl) ?_
                  refine lv_icmp_ne (tgt := 316) hx hb dL_orders_251 (by decide) (fun c41 => ?_) (fun c41 => ?_)
                  · have hF := it_f hF c41
                    refine lv_iconst (v := 0) hx hb dL_orders_316 (by decide) ?_
                    exact bz_zret C h hlocks hr (by decide) hF dL_orders_317
                  · have hF := it_t hF c41
                    refine lv_aload_n hx hb dL_orders_254 rfl (lv_at hl 1 rfl) ?_
                    refine lv_iload_n hx hb dL_orders_255 rfl (lv_at hl 2 rfl) ?_
                    refine lv_bipush (v := 7) hx hb dL_orders_256 (by decide) ?_
                    obtain ⟨r42, σ43, qr42, hF⟩ := bd_u hF
                    refine bz_callV (rest := []) (st1 := [.int r42]) C h (As := [.int x2_, .int 7]) (o := some (.int r42)) (τ := σ43) (c_X6_motor (l := l) ka0 (res := (r42, σ43)) qr42) ka0 (by decide) (ci := 6) rfl (cwV 2 hts (bz_gV wd_21_4 wd_21_5 wd_21_6 wd_1_2 wd_21_7) rfl rfl rfl (by decide +kernel) ⟨Nat.le_of_ble_eq_true rfl, Nat.le_of_ble_eq_true rfl⟩) rfl hl.1 rfl (by decide) ⟨Nat.le_of_ble_eq_true rfl, Nat.le_of_ble_eq_true rfl⟩ dL_orders_258 rfl (fun H locs h => ?_)
                    refine lv_iload hx hb dL_orders_261 (lv_at hl 5 rfl) ?_
                    refine lv_icmp_ne (tgt := 316) hx hb dL_orders_263 (by decide) (fun c44 => ?_) (fun c44 => ?_)
                    · have hF := it_f hF c44
                      refine lv_iconst (v := 0) hx hb dL_orders_316 (by decide) ?_
                      exact bz_zret C h hlocks hr (by decide) hF dL_orders_317
                    · have hF := it_t hF c44
                      refine lv_aload_n hx hb dL_orders_266 rfl (lv_at hl 1 rfl) ?_
                      refine lv_iload_n hx hb dL_orders_267 rfl (lv_at hl 2 rfl) ?_
                      refine lv_iconst (v := 5) hx hb dL_orders_268 (by decide) ?_
                      obtain ⟨r45, σ46, qr45, hF⟩ := bd_u hF
                      refine bz_callV (rest := []) (st1 := [.int r45]) C h (As := [.int x2_, .int 5]) (o := some (.int r45)) (τ := σ46) (c_X6_motor (l := l) ka0 (res := (r45, σ46)) qr45) ka0 (by decide) (ci := 6) rfl (cwV 2 hts (bz_gV wd_21_4 wd_21_5 wd_21_6 wd_1_2 wd_21_7) rfl rfl rfl (by decide +kernel) ⟨Nat.le_of_ble_eq_true rfl, Nat.le_of_ble_eq_true rfl⟩) rfl hl.1 rfl (by decide) ⟨Nat.le_of_ble_eq_true rfl, Nat.le_of_ble_eq_true rfl⟩ dL_orders_269 rfl (fun H locs h => ?_)
                      refine lv_iload hx hb dL_orders_272 (lv_at hl 0 rfl) ?_
                      obtain ⟨j49, ej49, hF⟩ := lt_j hF
                      have hj49 : ∀ (y47 : Int32) (σ48 : bz_W) (H : Heap) (locs : List Loc) (ls : Array Slot), j49 y47 σ48 = some res → bz_H G s σ48 H locs → lv_has ls 9 [(0, .ref a0), (2, .int x2_), (8, .int y37)] → W p l e ({ frames := 7, cells := 0, slots := 0, locals := 161 } : Room) s m args below meth c H locs 0 0 (MQ below (bz_Qc G (some (.int res.1)) res.2) args s 0 0 (bz_A G)) (F0 m 283 ls [.int y47, .int r45]) := by
                          intro y47 σ48 H locs ls hF h hl
                          subst ej49
                          refine lv_icmp_ne (tgt := 316) hx hb dL_orders_283 (by decide) (fun c50 => ?_) (fun c50 => ?_)
                          · have hF := it_f hF c50
                            refine lv_iconst (v := 0) hx hb dL_orders_316 (by decide) ?_
                            exact bz_zret C h hlocks hr (by decide) hF dL_orders_317
                          · have hF := it_t hF c50
                            refine lv_iload hx hb dL_orders_286 (lv_at hl 2 rfl) ?_
                            refine lv_if_eq (tgt := 312) hx hb dL_orders_288 (by decide) (fun c51 => ?_) (fun c51 => ?_)
                            · have hF := it_t hF c51
                              refine lv_iconst (v := 1) hx hb dL_orders_312 (by decide) ?_
                              refine lv_goto (tgt := 317) hx hb dL_orders_313 (by decide) ?_
                              exact bz_zret C h hlocks hr (by decide) hF dL_orders_317
                            · have hF := it_f hF c51
                              refine lv_aload_n hx hb dL_orders_291 rfl (lv_at hl 0 rfl) ?_
                              refine lv_iload_n hx hb dL_orders_292 rfl (lv_at hl 1 rfl) ?_
                              refine lv_bipush (v := 11) hx hb dL_orders_293 (by decide) ?_
                              obtain ⟨r52, σ53, qr52, hF⟩ := bd_u hF
                              refine bz_callV (rest := []) (st1 := [.int r52]) C h (As := [.int x2_, .int 11]) (o := some (.int r52)) (τ := σ53) (c_X6_motor (l := l) ka0 (res := (r52, σ53)) qr52) ka0 (by decide) (ci := 6) rfl (cwV 2 hts (bz_gV wd_21_4 wd_21_5 wd_21_6 wd_1_2 wd_21_7) rfl rfl rfl (by decide +kernel) ⟨Nat.le_of_ble_eq_true rfl, Nat.le_of_ble_eq_true rfl⟩) rfl hl.1 rfl (by decide) ⟨Nat.le_of_ble_eq_true rfl, Nat.le_of_ble_eq_true rfl⟩ dL_orders_295 rfl (fun H locs h => ?_)
                              refine lv_iconst (v := 4) hx hb dL_orders_298 (by decide) ?_
                              refine lv_icmp_ne (tgt := 316) hx hb dL_orders_299 (by decide) (fun c54 => ?_) (fun c54 => ?_)
                              · have hF := it_f hF c54
                                refine lv_iconst (v := 0) hx hb dL_orders_316 (by decide) ?_
                                exact bz_zret C h hlocks hr (by decide) hF dL_orders_317
                              · have hF := it_t hF c54
                                refine lv_aload_n hx hb dL_orders_302 rfl (lv_at hl 0 rfl) ?_
                                refine lv_iconst (v := 0) hx hb dL_orders_303 (by decide) ?_
                                refine lv_iconst (v := 2) hx hb dL_orders_304 (by decide) ?_
                                obtain ⟨r55, σ56, qr55, hF⟩ := bd_u hF
                                refine bz_callV (rest := []) (st1 := [.int r55]) C h (As := [.int 0, .int 2]) (o := some (.int r55)) (τ := σ56) (c_X6_event (l := l) ka0 (res := (r55, σ56)) qr55) ka0 (by decide) (ci := 6) rfl (cwV 2 hts (bz_gV wd_10_20 wd_10_21 wd_10_22 wd_1_2 wd_10_23) rfl rfl rfl (by decide +kernel) ⟨Nat.le_of_ble_eq_true rfl, Nat.le_of_ble_eq_true rfl⟩) rfl hl.1 rfl (by decide) ⟨Nat.le_of_ble_eq_true rfl, Nat.le_of_ble_eq_true rfl⟩ dL_orders_305 rfl (fun H locs h => ?_)
                                refine lv_iconst (v := 5) hx hb dL_orders_308 (by decide) ?_
                                refine lv_icmp_ne (tgt := 316) hx hb dL_orders_309 (by decide) (fun c57 => ?_) (fun c57 => ?_)
                                · have hF := it_f hF c57
                                  refine lv_iconst (v := 0) hx hb dL_orders_316 (by decide) ?_
                                  exact bz_zret C h hlocks hr (by decide) hF dL_orders_317
                                · have hF := it_t hF c57
                                  refine lv_iconst (v := 1) hx hb dL_orders_312 (by decide) ?_
                                  refine lv_goto (tgt := 317) hx hb dL_orders_313 (by decide) ?_
                                  exact bz_zret C h hlocks hr (by decide) hF dL_orders_317
                      refine lv_if_eq (tgt := 281) hx hb dL_orders_274 (by decide) (fun c58 => ?_) (fun c58 => ?_)
                      · have hF := it_t hF c58
                        refine lv_iload hx hb dL_orders_281 (lv_at hl 3 rfl) ?_
                        exact hj49 _ _ H locs ls hF h (lv_sub hl [1, 2, 0] rfl)
                      · have hF := it_f hF c58
                        refine lv_iconst (v := 4) hx hb dL_orders_277 (by decide) ?_
                        refine lv_goto (tgt := 283) hx hb dL_orders_278 (by decide) ?_
                        exact hj49 _ _ H locs ls hF h (lv_sub hl [1, 2, 0] rfl)
                · have hF := it_t hF c40
                  refine lv_iload hx hb dL_orders_232 (lv_at hl 6 rfl) ?_
                  refine lv_bipush (v := (-4)) hx hb dL_orders_234 (by decide) ?_
                  refine lv_icmp_ne (tgt := 243) hx hb dL_orders_236 (by decide) (fun c59 => ?_) (fun c59 => ?_)
                  · have hF := it_f hF c59
                    refine lv_iconst (v := 0) hx hb dL_orders_243 (by decide) ?_
                    refine lv_goto (tgt := 317) hx hb dL_orders_244 (by decide) ?_
                    exact bz_zret C h hlocks hr (by decide) hF dL_orders_317
                  · have hF := it_t hF c59
                    refine lv_iconst (v := 1) hx hb dL_orders_239 (by decide) ?_
                    refine lv_goto (tgt := 317) hx hb dL_orders_240 (by decide) ?_
                    exact bz_zret C h hlocks hr (by decide) hF dL_orders_317
            obtain ⟨j61, ej61, hF⟩ := lt_j hF
            have hj61 : ∀ (σ60 : bz_W) (H : Heap) (locs : List Loc) (ls : Array Slot), j61 σ60 = some res → bz_H G s σ60 H locs → lv_has ls 9 [(0, .ref a0), (2, .int x2_), (4, .int r1), (5, .int r3), (6, .int y32), (7, .int r35)] → W p l e ({ frames := 7, cells := 0, slots := 0, locals := 161 } : Room) s m args below meth c H locs 0 0 (MQ below (bz_Qc G (some (.int res.1)) res.2) args s 0 0 (bz_A G)) (F0 m 222 ls []) := by
                intro σ60 H locs ls hF h hl
                subst ej61
                refine lv_iconst (v := 0) hx hb dL_orders_222 (by decide) ?_
                exact hj39 _ _ H locs ls hF h (lv_sub hl [0, 1, 2, 3, 4, 5] rfl)
            refine lv_icmp_ne (tgt := 222) hx hb dL_orders_210 (by decide) (fun c62 => ?_) (fun c62 => ?_)
            · have hF := it_f hF c62
              exact hj61 _ H locs ls hF h (lv_sub hl [2, 3, 4, 5, 1, 0] rfl)
            · have hF := it_t hF c62
              refine lv_iload hx hb dL_orders_213 (lv_at hl 1 rfl) ?_
              refine lv_if_le (tgt := 222) hx hb dL_orders_215 (by decide) (fun c63 => ?_) (fun c63 => ?_)
              · have hF := it_t hF c63
                exact hj61 _ H locs ls hF h (lv_sub hl [2, 3, 4, 5, 1, 0] rfl)
              · have hF := it_f hF c63
                refine lv_iconst (v := 1) hx hb dL_orders_218 (by decide) ?_
                refine lv_goto (tgt := 223) hx hb dL_orders_219 (by decide) ?_
                exact hj39 _ _ H locs ls hF h (lv_sub hl [2, 3, 4, 5, 1, 0] rfl)
        refine lv_if_ne (tgt := 195) hx hb dL_orders_181 (by decide) (fun c64 => ?_) (fun c64 => ?_)
        · have hF := it_f hF c64
          refine lv_iconst (v := 0) hx hb dL_orders_195 (by decide) ?_
          exact hj34 _ _ H locs ls hF h (lv_sub hl [2, 4, 1, 0] rfl)
        · have hF := it_t hF c64
          refine lv_iload_n hx hb dL_orders_184 rfl (lv_at hl 5 rfl) ?_
          refine lv_iconst (v := 2) hx hb dL_orders_185 (by decide) ?_
          refine lv_ishr hx hb dL_orders_186 ?_
          refine lv_bipush (v := 8) hx hb dL_orders_187 (by decide) ?_
          obtain ⟨r65, σ66, qr65, hF⟩ := bd_u hF
          refine bz_callS (rest := []) (st1 := [.int r65]) C h (As := [.int (x3_ >>> (2 &&& 31)), .int 8]) (o := some (.int r65)) (τ := σ66) (c_L_low (l := l)  (res := (r65, σ66)) qr65) (va_cwS 2 hts (bz_gS wd_20_17 wd_20_18 wd_20_14 wd_20_19) rfl rfl rfl (by decide +kernel) ⟨Nat.le_of_ble_eq_true rfl, Nat.le_of_ble_eq_true rfl⟩) rfl hl.1 rfl (by decide) ⟨Nat.le_of_ble_eq_true rfl, Nat.le_of_ble_eq_true rfl⟩ dL_orders_189 rfl (fun H locs h => ?_)
          refine lv_goto (tgt := 196) hx hb dL_orders_192 (by decide) ?_
          exact hj34 _ _ H locs ls hF h (lv_sub hl [2, 4, 1, 0] rfl)
    · have hF := it_t hF c6
      refine lv_aload_n hx hb dL_orders_97 rfl (lv_at hl 2 rfl) ?_
      refine lv_iload_n hx hb dL_orders_98 rfl (lv_at hl 4 rfl) ?_
      obtain ⟨r67, σ68, qr67, hF⟩ := bd_u hF
      refine bz_callV (rest := []) (st1 := [.int r67]) C h (As := [.int x2_]) (o := some (.int r67)) (τ := σ68) (c_X6_stop (l := l) ka0 (res := (r67, σ68)) qr67) ka0 (by decide) (ci := 6) rfl (cwV 1 hts (bz_gV wd_23_5 wd_23_6 wd_23_7 wd_1_2 wd_23_8) rfl rfl rfl (by decide +kernel) ⟨Nat.le_of_ble_eq_true rfl, Nat.le_of_ble_eq_true rfl⟩) rfl hl.1 rfl (by decide) ⟨Nat.le_of_ble_eq_true rfl, Nat.le_of_ble_eq_true rfl⟩ dL_orders_99 rfl (fun H locs h => ?_)
      refine lv_istore (lv' := [(6, .int r67), (5, .int r3), (4, .int r1), (0, .ref a0), (1, .int x1_), (2, .int x2_), (3, .int x3_)]) hx hb dL_orders_102 hl (by decide) rfl (fun ls hl => ?_)
      refine lv_iload hx hb dL_orders_104 (lv_at hl 2 rfl) ?_
      obtain ⟨j70, ej70, hF⟩ := lt_j hF
      have hj70 : ∀ (σ69 : bz_W) (H : Heap) (locs : List Loc) (ls : Array Slot), j70 σ69 = some res → bz_H G s σ69 H locs → lv_has ls 9 [(0, .ref a0), (6, .int r67)] → W p l e ({ frames := 7, cells := 0, slots := 0, locals := 161 } : Room) s m args below meth c H locs 0 0 (MQ below (bz_Qc G (some (.int res.1)) res.2) args s 0 0 (bz_A G)) (F0 m 149 ls []) := by
          intro σ69 H locs ls hF h hl
          subst ej70
          refine lv_iload hx hb dL_orders_149 (lv_at hl 1 rfl) ?_
          refine lv_bipush (v := (-3)) hx hb dL_orders_151 (by decide) ?_
          refine lv_icmp_ne (tgt := 170) hx hb dL_orders_153 (by decide) (fun c71 => ?_) (fun c71 => ?_)
          · have hF := it_f hF c71
            refine lv_iconst (v := 0) hx hb dL_orders_170 (by decide) ?_
            exact bz_zret C h hlocks hr (by decide) hF dL_orders_171
          · have hF := it_t hF c71
            refine lv_aload_n hx hb dL_orders_156 rfl (lv_at hl 0 rfl) ?_
            refine lv_bipush (v := 8) hx hb dL_orders_157 (by decide) ?_
            obtain ⟨r72, σ73, qr72, hF⟩ := bd_u hF
            refine bz_callV (rest := []) (st1 := [.int r72]) C h (As := [.int 8]) (o := some (.int r72)) (τ := σ73) (c_X6_count (l := l) ka0 (res := (r72, σ73)) qr72) ka0 (by decide) (ci := 6) rfl (cwV 1 hts (bz_gV wd_16_2 wd_16_3 wd_16_4 wd_1_2 wd_16_5) rfl rfl rfl (by decide +kernel) ⟨Nat.le_of_ble_eq_true rfl, Nat.le_of_ble_eq_true rfl⟩) rfl hl.1 rfl (by decide) ⟨Nat.le_of_ble_eq_true rfl, Nat.le_of_ble_eq_true rfl⟩ dL_orders_159 rfl (fun H locs h => ?_)
            refine lv_iconst (v := 1) hx hb dL_orders_162 (by decide) ?_
            refine lv_icmp_ne (tgt := 170) hx hb dL_orders_163 (by decide) (fun c74 => ?_) (fun c74 => ?_)
            · have hF := it_f hF c74
              refine lv_iconst (v := 0) hx hb dL_orders_170 (by decide) ?_
              exact bz_zret C h hlocks hr (by decide) hF dL_orders_171
            · have hF := it_t hF c74
              refine lv_iconst (v := 1) hx hb dL_orders_166 (by decide) ?_
              refine lv_goto (tgt := 171) hx hb dL_orders_167 (by decide) ?_
              exact bz_zret C h hlocks hr (by decide) hF dL_orders_171
      refine lv_if_le (tgt := 149) hx hb dL_orders_106 (by decide) (fun c75 => ?_) (fun c75 => ?_)
      · have hF := it_t hF c75
        exact hj70 _ H locs ls hF h (lv_sub hl [3, 0] rfl)
      · have hF := it_f hF c75
        refine lv_iload hx hb dL_orders_109 (lv_at hl 2 rfl) ?_
        refine lv_iconst (v := 4) hx hb dL_orders_111 (by decide) ?_
        refine lv_icmp_ge (tgt := 149) hx hb dL_orders_112 (by decide) (fun c76 => ?_) (fun c76 => ?_)
        · have hF := it_t hF c76
          exact hj70 _ H locs ls hF h (lv_sub hl [3, 0] rfl)
        · have hF := it_f hF c76
          refine lv_iload hx hb dL_orders_115 (lv_at hl 0 rfl) ?_
          refine lv_iload hx hb dL_orders_117 (lv_at hl 2 rfl) ?_
          refine lv_icmp_ne (tgt := 145) hx hb dL_orders_119 (by decide) (fun c77 => ?_) (fun c77 => ?_)
          · have hF := it_f hF c77
            refine lv_iconst (v := 0) hx hb dL_orders_145 (by decide) ?_
            refine lv_goto (tgt := 171) hx hb dL_orders_146 (by decide) ?_
            exact bz_zret C h hlocks hr (by decide) hF dL_orders_171
          · have hF := it_t hF c77
            refine lv_aload_n hx hb dL_orders_122 rfl (lv_at hl 3 rfl) ?_
            refine lv_iload_n hx hb dL_orders_123 rfl (lv_at hl 5 rfl) ?_
            refine lv_iconst (v := 5) hx hb dL_orders_124 (by decide) ?_
            obtain ⟨r78, σ79, qr78, hF⟩ := bd_u hF
            refine bz_callV (rest := []) (st1 := [.int r78]) C h (As := [.int x2_, .int 5]) (o := some (.int r78)) (τ := σ79) (c_X6_motor (l := l) ka0 (res := (r78, σ79)) qr78) ka0 (by decide) (ci := 6) rfl (cwV 2 hts (bz_gV wd_21_4 wd_21_5 wd_21_6 wd_1_2 wd_21_7) rfl rfl rfl (by decide +kernel) ⟨Nat.le_of_ble_eq_true rfl, Nat.le_of_ble_eq_true rfl⟩) rfl hl.1 rfl (by decide) ⟨Nat.le_of_ble_eq_true rfl, Nat.le_of_ble_eq_true rfl⟩ dL_orders_125 rfl (fun H locs h => ?_)
            refine lv_if_ne (tgt := 145) hx hb dL_orders_128 (by decide) (fun c80 => ?_) (fun c80 => ?_)
            · have hF := it_f hF c80
              refine lv_iconst (v := 0) hx hb dL_orders_145 (by decide) ?_
              refine lv_goto (tgt := 171) hx hb dL_orders_146 (by decide) ?_
              exact bz_zret C h hlocks hr (by decide) hF dL_orders_171
            · have hF := it_t hF c80
              refine lv_aload_n hx hb dL_orders_131 rfl (lv_at hl 3 rfl) ?_
              refine lv_iconst (v := 0) hx hb dL_orders_132 (by decide) ?_
              refine lv_iconst (v := 2) hx hb dL_orders_133 (by decide) ?_
              obtain ⟨r81, σ82, qr81, hF⟩ := bd_u hF
              refine bz_callV (rest := []) (st1 := [.int r81]) C h (As := [.int 0, .int 2]) (o := some (.int r81)) (τ := σ82) (c_X6_event (l := l) ka0 (res := (r81, σ82)) qr81) ka0 (by decide) (ci := 6) rfl (cwV 2 hts (bz_gV wd_10_20 wd_10_21 wd_10_22 wd_1_2 wd_10_23) rfl rfl rfl (by decide +kernel) ⟨Nat.le_of_ble_eq_true rfl, Nat.le_of_ble_eq_true rfl⟩) rfl hl.1 rfl (by decide) ⟨Nat.le_of_ble_eq_true rfl, Nat.le_of_ble_eq_true rfl⟩ dL_orders_134 rfl (fun H locs h => ?_)
              refine lv_iconst (v := 3) hx hb dL_orders_137 (by decide) ?_
              refine lv_icmp_ne (tgt := 145) hx hb dL_orders_138 (by decide) (fun c83 => ?_) (fun c83 => ?_)
              · have hF := it_f hF c83
                refine lv_iconst (v := 0) hx hb dL_orders_145 (by decide) ?_
                refine lv_goto (tgt := 171) hx hb dL_orders_146 (by decide) ?_
                exact bz_zret C h hlocks hr (by decide) hF dL_orders_171
              · have hF := it_t hF c83
                refine lv_iconst (v := 1) hx hb dL_orders_141 (by decide) ?_
                refine lv_goto (tgt := 171) hx hb dL_orders_142 (by decide) ?_
                exact bz_zret C h hlocks hr (by decide) hF dL_orders_171
  · have hF := it_f hF c5
    refine lv_aload_n hx hb dL_orders_23 rfl (lv_at hl 2 rfl) ?_
    refine lv_iload_n hx hb dL_orders_24 rfl (lv_at hl 4 rfl) ?_
    obtain ⟨r84, σ85, qr84, hF⟩ := bd_u hF
    refine bz_callV (rest := []) (st1 := [.int r84]) C h (As := [.int x2_]) (o := some (.int r84)) (τ := σ85) (c_X6_request (l := l) ka0 (res := (r84, σ85)) qr84) ka0 (by decide) (ci := 6) rfl (cwV 1 hts (bz_gV wd_7_22 wd_7_23 wd_8_0 wd_1_2 wd_8_1) rfl rfl rfl (by decide +kernel) ⟨Nat.le_of_ble_eq_true rfl, Nat.le_of_ble_eq_true rfl⟩) rfl hl.1 rfl (by decide) ⟨Nat.le_of_ble_eq_true rfl, Nat.le_of_ble_eq_true rfl⟩ dL_orders_25 rfl (fun H locs h => ?_)
    refine lv_istore (lv' := [(6, .int r84), (5, .int r3), (4, .int r1), (0, .ref a0), (1, .int x1_), (2, .int x2_), (3, .int x3_)]) hx hb dL_orders_28 hl (by decide) rfl (fun ls hl => ?_)
    refine lv_iload hx hb dL_orders_30 (lv_at hl 2 rfl) ?_
    refine lv_if_ne (tgt := 68) hx hb dL_orders_32 (by decide) (fun c86 => ?_) (fun c86 => ?_)
    · have hF := it_f hF c86
      refine lv_iload hx hb dL_orders_68 (lv_at hl 0 rfl) ?_
      refine lv_bipush (v := (-3)) hx hb dL_orders_70 (by decide) ?_
      refine lv_icmp_ne (tgt := 89) hx hb dL_orders_72 (by decide) (fun c87 => ?_) (fun c87 => ?_)
      · have hF := it_f hF c87
        refine lv_iconst (v := 0) hx hb dL_orders_89 (by decide) ?_
        exact bz_zret C h hlocks hr (by decide) hF dL_orders_90
      · have hF := it_t hF c87
        refine lv_aload_n hx hb dL_orders_75 rfl (lv_at hl 3 rfl) ?_
        refine lv_bipush (v := 8) hx hb dL_orders_76 (by decide) ?_
        obtain ⟨r88, σ89, qr88, hF⟩ := bd_u hF
        refine bz_callV (rest := []) (st1 := [.int r88]) C h (As := [.int 8]) (o := some (.int r88)) (τ := σ89) (c_X6_count (l := l) ka0 (res := (r88, σ89)) qr88) ka0 (by decide) (ci := 6) rfl (cwV 1 hts (bz_gV wd_16_2 wd_16_3 wd_16_4 wd_1_2 wd_16_5) rfl rfl rfl (by decide +kernel) ⟨Nat.le_of_ble_eq_true rfl, Nat.le_of_ble_eq_true rfl⟩) rfl hl.1 rfl (by decide) ⟨Nat.le_of_ble_eq_true rfl, Nat.le_of_ble_eq_true rfl⟩ dL_orders_78 rfl (fun H locs h => ?_)
        refine lv_iconst (v := 1) hx hb dL_orders_81 (by decide) ?_
        refine lv_icmp_ne (tgt := 89) hx hb dL_orders_82 (by decide) (fun c90 => ?_) (fun c90 => ?_)
        · have hF := it_f hF c90
          refine lv_iconst (v := 0) hx hb dL_orders_89 (by decide) ?_
          exact bz_zret C h hlocks hr (by decide) hF dL_orders_90
        · have hF := it_t hF c90
          refine lv_iconst (v := 1) hx hb dL_orders_85 (by decide) ?_
          refine lv_goto (tgt := 90) hx hb dL_orders_86 (by decide) ?_
          exact bz_zret C h hlocks hr (by decide) hF dL_orders_90
    · have hF := it_t hF c86
      refine lv_iload hx hb dL_orders_35 (lv_at hl 0 rfl) ?_
      refine lv_if_lt (tgt := 64) hx hb dL_orders_37 (by decide) (fun c91 => ?_) (fun c91 => ?_)
      · have hF := it_t hF c91
        refine lv_iconst (v := 0) hx hb dL_orders_64 (by decide) ?_
        refine lv_goto (tgt := 90) hx hb dL_orders_65 (by decide) ?_
        exact bz_zret C h hlocks hr (by decide) hF dL_orders_90
      · have hF := it_f hF c91
        refine lv_aload_n hx hb dL_orders_40 rfl (lv_at hl 3 rfl) ?_
        refine lv_iload hx hb dL_orders_41 (lv_at hl 0 rfl) ?_
        obtain ⟨r92, σ93, qr92, hF⟩ := bd_u hF
        refine bz_callV (rest := []) (st1 := [.int r92]) C h (As := [.int r84]) (o := some (.int r92)) (τ := σ93) (c_X6_queue (l := l) ka0 (res := (r92, σ93)) qr92) ka0 (by decide) (ci := 6) rfl (cwV 1 hts (bz_gV wd_7_1 wd_7_2 wd_7_3 wd_1_2 wd_7_4) rfl rfl rfl (by decide +kernel) ⟨Nat.le_of_ble_eq_true rfl, Nat.le_of_ble_eq_true rfl⟩) rfl hl.1 rfl (by decide) ⟨Nat.le_of_ble_eq_true rfl, Nat.le_of_ble_eq_true rfl⟩ dL_orders_43 rfl (fun H locs h => ?_)
        refine lv_iload_n hx hb dL_orders_46 rfl (lv_at hl 5 rfl) ?_
        refine lv_icmp_ne (tgt := 64) hx hb dL_orders_47 (by decide) (fun c94 => ?_) (fun c94 => ?_)
        · have hF := it_f hF c94
          refine lv_iconst (v := 0) hx hb dL_orders_64 (by decide) ?_
          refine lv_goto (tgt := 90) hx hb dL_orders_65 (by decide) ?_
          exact bz_zret C h hlocks hr (by decide) hF dL_orders_90
        · have hF := it_t hF c94
          refine lv_aload_n hx hb dL_orders_50 rfl (lv_at hl 3 rfl) ?_
          refine lv_iload_n hx hb dL_orders_51 rfl (lv_at hl 5 rfl) ?_
          refine lv_bipush (v := 9) hx hb dL_orders_52 (by decide) ?_
          obtain ⟨r95, σ96, qr95, hF⟩ := bd_u hF
          refine bz_callV (rest := []) (st1 := [.int r95]) C h (As := [.int x2_, .int 9]) (o := some (.int r95)) (τ := σ96) (c_X6_motor (l := l) ka0 (res := (r95, σ96)) qr95) ka0 (by decide) (ci := 6) rfl (cwV 2 hts (bz_gV wd_21_4 wd_21_5 wd_21_6 wd_1_2 wd_21_7) rfl rfl rfl (by decide +kernel) ⟨Nat.le_of_ble_eq_true rfl, Nat.le_of_ble_eq_true rfl⟩) rfl hl.1 rfl (by decide) ⟨Nat.le_of_ble_eq_true rfl, Nat.le_of_ble_eq_true rfl⟩ dL_orders_54 rfl (fun H locs h => ?_)
          refine lv_if_ne (tgt := 64) hx hb dL_orders_57 (by decide) (fun c97 => ?_) (fun c97 => ?_)
          · have hF := it_f hF c97
            refine lv_iconst (v := 0) hx hb dL_orders_64 (by decide) ?_
            refine lv_goto (tgt := 90) hx hb dL_orders_65 (by decide) ?_
            exact bz_zret C h hlocks hr (by decide) hF dL_orders_90
          · have hF := it_t hF c97
            refine lv_iconst (v := 1) hx hb dL_orders_60 (by decide) ?_
            refine lv_goto (tgt := 90) hx hb dL_orders_61 (by decide) ?_
            exact bz_zret C h hlocks hr (by decide) hF dL_orders_90
set_option maxHeartbeats 4000000 in
set_option maxRecDepth 100000 in
theorem c_L_sets {l : Launch} {G : bz_G} {σ : bz_W} {a0 : Nat} {x1_ : Int32} {x2_ : Int32} {x3_ : Int32} (ka0 : bz_k G a0 = (7, 0)) {res : Int32 × bz_W} (hF : f_L_sets σ a0 x1_ x2_ x3_ = some res) : bz_M l yL_sets wz_L_sets 7 160 G σ [.ref a0, .int x1_, .int x2_, .int x3_] (some (.int res.1)) res.2 := by
  refine bz_mk (cc := cL_sets) (maxL := 6) (ret := (some .boolean)) (own := RL) (by decide) rfl rfl (Nat.le_of_ble_eq_true rfl) ?_
  intro p e s m args below meth c ls C hlocks hr h hl
  have hx := C.1
  have hb := C.2.1
  have hts := C.2.2.2.2.1
  have hl : lv_has ls 6 [(0, .ref a0), (1, .int x1_), (2, .int x2_), (3, .int x3_)] := hl
  obtain ⟨H, eH⟩ : ∃ y, y = s.heap := ⟨_, rfl⟩
  obtain ⟨locs, el⟩ : ∃ y : List Loc, y = [] := ⟨_, rfl⟩
  rw [← el, ← eH] at h ⊢
  unfold f_L_sets at hF
  refine lv_iload_n hx hb dL_sets_0 rfl (lv_at hl 1 rfl) ?_
  refine lv_iconst (v := 1) hx hb dL_sets_1 (by decide) ?_
  refine lv_icmp_ne (tgt := 82) hx hb dL_sets_2 (by decide) (fun c1 => ?_) (fun c1 => ?_)
  · have hF := it_f hF c1
    refine lv_iload_n hx hb dL_sets_82 rfl (lv_at hl 1 rfl) ?_
    refine lv_iconst (v := 2) hx hb dL_sets_83 (by decide) ?_
    refine lv_icmp_ne (tgt := 174) hx hb dL_sets_84 (by decide) (fun c2 => ?_) (fun c2 => ?_)
    · have hF := it_f hF c2
      refine lv_aload_n hx hb dL_sets_174 rfl (lv_at hl 0 rfl) ?_
      refine lv_bipush (v := 7) hx hb dL_sets_175 (by decide) ?_
      obtain ⟨r3, σ4, qr3, hF⟩ := bd_u hF
      refine bz_callV (rest := []) (st1 := [.int r3]) C h (As := [.int 7]) (o := some (.int r3)) (τ := σ4) (c_X6_count (l := l) ka0 (res := (r3, σ4)) qr3) ka0 (by decide) (ci := 6) rfl (cwV 1 hts (bz_gV wd_16_2 wd_16_3 wd_16_4 wd_1_2 wd_16_5) rfl rfl rfl (by decide +kernel) ⟨Nat.le_of_ble_eq_true rfl, Nat.le_of_ble_eq_true rfl⟩) rfl hl.1 rfl (by decide) ⟨Nat.le_of_ble_eq_true rfl, Nat.le_of_ble_eq_true rfl⟩ dL_sets_177 rfl (fun H locs h => ?_)
      refine lv_istore (lv' := [(4, .int r3), (0, .ref a0), (1, .int x1_), (2, .int x2_), (3, .int x3_)]) hx hb dL_sets_180 hl (by decide) rfl (fun ls hl => ?_)
      refine lv_iload_n hx hb dL_sets_182 rfl (lv_at hl 4 rfl) ?_
      refine lv_iconst (v := 1) hx hb dL_sets_183 (by decide) ?_
      refine lv_iand hx hb dL_sets_184 ?_
      refine lv_topi (fun x5 ex5 => ?_)
      have hF := lt_u hF x5 ex5
      refine lv_istore (lv' := [(5, .int x5), (4, .int r3), (0, .ref a0), (1, .int x1_), (2, .int x2_), (3, .int x3_)]) hx hb dL_sets_185 hl (by decide) rfl (fun ls hl => ?_)
      refine lv_aload_n hx hb dL_sets_187 rfl (lv_at hl 2 rfl) ?_
      refine lv_iload hx hb dL_sets_188 (lv_at hl 0 rfl) ?_
      refine lv_iconst (v := 1) hx hb dL_sets_190 (by decide) ?_
      obtain ⟨j8, ej8, hF⟩ := lt_j hF
      have hj8 : ∀ (y6 : Int32) (σ7 : bz_W) (H : Heap) (locs : List Loc) (ls : Array Slot), j8 y6 σ7 = some res → bz_H G s σ7 H locs → lv_has ls 6 [(0, .ref a0), (4, .int r3), (5, .int x5)] → W p l e ({ frames := 7, cells := 0, slots := 0, locals := 160 } : Room) s m args below meth c H locs 0 0 (MQ below (bz_Qc G (some (.int res.1)) res.2) args s 0 0 (bz_A G)) (F0 m 199 ls [.int y6, .ref a0]) := by
          intro y6 σ7 H locs ls hF h hl
          subst ej8
          obtain ⟨r9, σ10, qr9, hF⟩ := bd_u hF
          refine bz_callV (rest := []) (st1 := [.int r9]) C h (As := [.int y6]) (o := some (.int r9)) (τ := σ10) (c_X6_setFan (l := l) ka0 (res := (r9, σ10)) qr9) ka0 (by decide) (ci := 6) rfl (cwV 1 hts (bz_gV wd_22_22 wd_22_23 wd_23_0 wd_1_2 wd_23_1) rfl rfl rfl (by decide +kernel) ⟨Nat.le_of_ble_eq_true rfl, Nat.le_of_ble_eq_true rfl⟩) rfl hl.1 rfl (by decide) ⟨Nat.le_of_ble_eq_true rfl, Nat.le_of_ble_eq_true rfl⟩ dL_sets_199 rfl (fun H locs h => ?_)
          refine lv_iload hx hb dL_sets_202 (lv_at hl 1 rfl) ?_
          refine lv_iload hx hb dL_sets_204 (lv_at hl 2 rfl) ?_
          obtain ⟨j13, ej13, hF⟩ := lt_j hF
          have hj13 : ∀ (y11 : Int32) (σ12 : bz_W) (H : Heap) (locs : List Loc) (ls : Array Slot), j13 y11 σ12 = some res → bz_H G s σ12 H locs → lv_has ls 6 [(0, .ref a0), (5, .int x5)] → W p l e ({ frames := 7, cells := 0, slots := 0, locals := 160 } : Room) s m args below meth c H locs 0 0 (MQ below (bz_Qc G (some (.int res.1)) res.2) args s 0 0 (bz_A G)) (F0 m 216 ls [.int y11, .int r9]) := by
              intro y11 σ12 H locs ls hF h hl
              subst ej13
              refine lv_icmp_ne (tgt := 234) hx hb dL_sets_216 (by decide) (fun c14 => ?_) (fun c14 => ?_)
              · have hF := it_f hF c14
                refine lv_iconst (v := 0) hx hb dL_sets_234 (by decide) ?_
                exact bz_zret C h hlocks hr (by decide) hF dL_sets_235
              · have hF := it_t hF c14
                refine lv_aload_n hx hb dL_sets_219 rfl (lv_at hl 0 rfl) ?_
                refine lv_bipush (v := 7) hx hb dL_sets_220 (by decide) ?_
                obtain ⟨r15, σ16, qr15, hF⟩ := bd_u hF
                refine bz_callV (rest := []) (st1 := [.int r15]) C h (As := [.int 7]) (o := some (.int r15)) (τ := σ16) (c_X6_count (l := l) ka0 (res := (r15, σ16)) qr15) ka0 (by decide) (ci := 6) rfl (cwV 1 hts (bz_gV wd_16_2 wd_16_3 wd_16_4 wd_1_2 wd_16_5) rfl rfl rfl (by decide +kernel) ⟨Nat.le_of_ble_eq_true rfl, Nat.le_of_ble_eq_true rfl⟩) rfl hl.1 rfl (by decide) ⟨Nat.le_of_ble_eq_true rfl, Nat.le_of_ble_eq_true rfl⟩ dL_sets_222 rfl (fun H locs h => ?_)
                refine lv_iload hx hb dL_sets_225 (lv_at hl 1 rfl) ?_
                refine lv_icmp_ne (tgt := 234) hx hb dL_sets_227 (by decide) (fun c17 => ?_) (fun c17 => ?_)
                · have hF := it_f hF c17
                  refine lv_iconst (v := 0) hx hb dL_sets_234 (by decide) ?_
                  exact bz_zret C h hlocks hr (by decide) hF dL_sets_235
                · have hF := it_t hF c17
                  refine lv_iconst (v := 1) hx hb dL_sets_230 (by decide) ?_
                  refine lv_goto (tgt := 235) hx hb dL_sets_231 (by decide) ?_
                  exact bz_zret C h hlocks hr (by decide) hF dL_sets_235
          refine lv_icmp_ne (tgt := 214) hx hb dL_sets_206 (by decide) (fun c18 => ?_) (fun c18 => ?_)
          · have hF := it_f hF c18
            refine lv_iload hx hb dL_sets_214 (lv_at hl 2 rfl) ?_
            exact hj13 _ _ H locs ls hF h (lv_sub hl [0, 2] rfl)
          · have hF := it_t hF c18
            refine lv_bipush (v := (-4)) hx hb dL_sets_209 (by decide) ?_
            refine lv_goto (tgt := 216) hx hb dL_sets_211 (by decide) ?_
            exact hj13 _ _ H locs ls hF h (lv_sub hl [0, 2] rfl)
      refine lv_icmp_ne (tgt := 198) hx hb dL_sets_191 (by decide) (fun c19 => ?_) (fun c19 => ?_)
      · have hF := it_f hF c19
        refine lv_iconst (v := 0) hx hb dL_sets_198 (by decide) ?_
        exact hj8 _ _ H locs ls hF h (lv_sub hl [2, 1, 0] rfl)
      · have hF := it_t hF c19
        refine lv_iconst (v := 1) hx hb dL_sets_194 (by decide) ?_
        refine lv_goto (tgt := 199) hx hb dL_sets_195 (by decide) ?_
        exact hj8 _ _ H locs ls hF h (lv_sub hl [2, 1, 0] rfl)
    · have hF := it_t hF c2
      refine lv_aload_n hx hb dL_sets_87 rfl (lv_at hl 0 rfl) ?_
      refine lv_bipush (v := 6) hx hb dL_sets_88 (by decide) ?_
      obtain ⟨r20, σ21, qr20, hF⟩ := bd_u hF
      refine bz_callV (rest := []) (st1 := [.int r20]) C h (As := [.int 6]) (o := some (.int r20)) (τ := σ21) (c_X6_count (l := l) ka0 (res := (r20, σ21)) qr20) ka0 (by decide) (ci := 6) rfl (cwV 1 hts (bz_gV wd_16_2 wd_16_3 wd_16_4 wd_1_2 wd_16_5) rfl rfl rfl (by decide +kernel) ⟨Nat.le_of_ble_eq_true rfl, Nat.le_of_ble_eq_true rfl⟩) rfl hl.1 rfl (by decide) ⟨Nat.le_of_ble_eq_true rfl, Nat.le_of_ble_eq_true rfl⟩ dL_sets_90 rfl (fun H locs h => ?_)
      refine lv_istore (lv' := [(4, .int r20), (0, .ref a0), (1, .int x1_), (2, .int x2_), (3, .int x3_)]) hx hb dL_sets_93 hl (by decide) rfl (fun ls hl => ?_)
      refine lv_aload_n hx hb dL_sets_95 rfl (lv_at hl 1 rfl) ?_
      refine lv_bipush (v := 10) hx hb dL_sets_96 (by decide) ?_
      refine lv_iload_n hx hb dL_sets_98 rfl (lv_at hl 4 rfl) ?_
      refine lv_sipush (v := 900) hx hb dL_sets_99 (by decide) ?_
      obtain ⟨r22, σ23, qr22, hF⟩ := bd_u hF
      refine bz_callS (rest := [.int 10, .ref a0]) (st1 := [.int r22, .int 10, .ref a0]) C h (As := [.int x3_, .int 900]) (o := some (.int r22)) (τ := σ23) (c_L_low (l := l)  (res := (r22, σ23)) qr22) (va_cwS 2 hts (bz_gS wd_20_17 wd_20_18 wd_20_14 wd_20_19) rfl rfl rfl (by decide +kernel) ⟨Nat.le_of_ble_eq_true rfl, Nat.le_of_ble_eq_true rfl⟩) rfl hl.1 rfl (Nat.le_of_ble_eq_true rfl) ⟨Nat.le_of_ble_eq_true rfl, Nat.le_of_ble_eq_true rfl⟩ dL_sets_102 rfl (fun H locs h => ?_)
      refine lv_iadd hx hb dL_sets_105 ?_
      obtain ⟨r24, σ25, qr24, hF⟩ := bd_u hF
      refine bz_callV (rest := []) (st1 := [.int r24]) C h (As := [.int (10 + r22)]) (o := some (.int r24)) (τ := σ25) (c_X6_setLimit (l := l) ka0 (res := (r24, σ25)) qr24) ka0 (by decide) (ci := 6) rfl (cwV 1 hts (bz_gV wd_22_18 wd_22_19 wd_22_20 wd_1_2 wd_22_21) rfl rfl rfl (by decide +kernel) ⟨Nat.le_of_ble_eq_true rfl, Nat.le_of_ble_eq_true rfl⟩) rfl hl.1 rfl (by decide) ⟨Nat.le_of_ble_eq_true rfl, Nat.le_of_ble_eq_true rfl⟩ dL_sets_106 rfl (fun H locs h => ?_)
      refine lv_istore (lv' := [(5, .int r24), (4, .int r20), (0, .ref a0), (1, .int x1_), (2, .int x2_), (3, .int x3_)]) hx hb dL_sets_109 hl (by decide) rfl (fun ls hl => ?_)
      refine lv_iload hx hb dL_sets_111 (lv_at hl 0 rfl) ?_
      refine lv_iload hx hb dL_sets_113 (lv_at hl 1 rfl) ?_
      refine lv_bipush (v := 10) hx hb dL_sets_115 (by decide) ?_
      refine lv_iload_n hx hb dL_sets_117 rfl (lv_at hl 5 rfl) ?_
      refine lv_sipush (v := 900) hx hb dL_sets_118 (by decide) ?_
      obtain ⟨r26, σ27, qr26, hF⟩ := bd_u hF
      refine bz_callS (rest := [.int 10, .int r20, .int r24]) (st1 := [.int r26, .int 10, .int r20, .int r24]) C h (As := [.int x3_, .int 900]) (o := some (.int r26)) (τ := σ27) (c_L_low (l := l)  (res := (r26, σ27)) qr26) (va_cwS 2 hts (bz_gS wd_20_17 wd_20_18 wd_20_14 wd_20_19) rfl rfl rfl (by decide +kernel) ⟨Nat.le_of_ble_eq_true rfl, Nat.le_of_ble_eq_true rfl⟩) rfl hl.1 rfl (Nat.le_of_ble_eq_true rfl) ⟨Nat.le_of_ble_eq_true rfl, Nat.le_of_ble_eq_true rfl⟩ dL_sets_121 rfl (fun H locs h => ?_)
      refine lv_iadd hx hb dL_sets_124 ?_
      obtain ⟨j30, ej30, hF⟩ := lt_j hF
      have hj30 : ∀ (y28 : Int32) (σ29 : bz_W) (H : Heap) (locs : List Loc) (ls : Array Slot), j30 y28 σ29 = some res → bz_H G s σ29 H locs → lv_has ls 6 [(0, .ref a0), (3, .int x3_)] → W p l e ({ frames := 7, cells := 0, slots := 0, locals := 160 } : Room) s m args below meth c H locs 0 0 (MQ below (bz_Qc G (some (.int res.1)) res.2) args s 0 0 (bz_A G)) (F0 m 135 ls [.int y28, .int r24]) := by
          intro y28 σ29 H locs ls hF h hl
          subst ej30
          refine lv_icmp_ne (tgt := 172) hx hb dL_sets_135 (by decide) (fun c31 => ?_) (fun c31 => ?_)
          · have hF := it_f hF c31
            refine lv_iconst (v := 0) hx hb dL_sets_172 (by decide) ?_
            exact bz_zret C h hlocks hr (by decide) hF dL_sets_173
          · have hF := it_t hF c31
            refine lv_aload_n hx hb dL_sets_138 rfl (lv_at hl 0 rfl) ?_
            refine lv_bipush (v := 6) hx hb dL_sets_139 (by decide) ?_
            obtain ⟨r32, σ33, qr32, hF⟩ := bd_u hF
            refine bz_callV (rest := []) (st1 := [.int r32]) C h (As := [.int 6]) (o := some (.int r32)) (τ := σ33) (c_X6_count (l := l) ka0 (res := (r32, σ33)) qr32) ka0 (by decide) (ci := 6) rfl (cwV 1 hts (bz_gV wd_16_2 wd_16_3 wd_16_4 wd_1_2 wd_16_5) rfl rfl rfl (by decide +kernel) ⟨Nat.le_of_ble_eq_true rfl, Nat.le_of_ble_eq_true rfl⟩) rfl hl.1 rfl (by decide) ⟨Nat.le_of_ble_eq_true rfl, Nat.le_of_ble_eq_true rfl⟩ dL_sets_141 rfl (fun H locs h => ?_)
            refine lv_bipush (v := 10) hx hb dL_sets_144 (by decide) ?_
            refine lv_iload_n hx hb dL_sets_146 rfl (lv_at hl 1 rfl) ?_
            refine lv_sipush (v := 900) hx hb dL_sets_147 (by decide) ?_
            obtain ⟨r34, σ35, qr34, hF⟩ := bd_u hF
            refine bz_callS (rest := [.int 10, .int r32]) (st1 := [.int r34, .int 10, .int r32]) C h (As := [.int x3_, .int 900]) (o := some (.int r34)) (τ := σ35) (c_L_low (l := l)  (res := (r34, σ35)) qr34) (va_cwS 2 hts (bz_gS wd_20_17 wd_20_18 wd_20_14 wd_20_19) rfl rfl rfl (by decide +kernel) ⟨Nat.le_of_ble_eq_true rfl, Nat.le_of_ble_eq_true rfl⟩) rfl hl.1 rfl (Nat.le_of_ble_eq_true rfl) ⟨Nat.le_of_ble_eq_true rfl, Nat.le_of_ble_eq_true rfl⟩ dL_sets_150 rfl (fun H locs h => ?_)
            refine lv_iadd hx hb dL_sets_153 ?_
            refine lv_icmp_ne (tgt := 172) hx hb dL_sets_154 (by decide) (fun c36 => ?_) (fun c36 => ?_)
            · have hF := it_f hF c36
              refine lv_iconst (v := 0) hx hb dL_sets_172 (by decide) ?_
              exact bz_zret C h hlocks hr (by decide) hF dL_sets_173
            · have hF := it_t hF c36
              refine lv_aload_n hx hb dL_sets_157 rfl (lv_at hl 0 rfl) ?_
              refine lv_bipush (v := 9) hx hb dL_sets_158 (by decide) ?_
              obtain ⟨r37, σ38, qr37, hF⟩ := bd_u hF
              refine bz_callV (rest := []) (st1 := [.int r37]) C h (As := [.int 9]) (o := some (.int r37)) (τ := σ38) (c_X6_setLimit (l := l) ka0 (res := (r37, σ38)) qr37) ka0 (by decide) (ci := 6) rfl (cwV 1 hts (bz_gV wd_22_18 wd_22_19 wd_22_20 wd_1_2 wd_22_21) rfl rfl rfl (by decide +kernel) ⟨Nat.le_of_ble_eq_true rfl, Nat.le_of_ble_eq_true rfl⟩) rfl hl.1 rfl (by decide) ⟨Nat.le_of_ble_eq_true rfl, Nat.le_of_ble_eq_true rfl⟩ dL_sets_160 rfl (fun H locs h => ?_)
              refine lv_bipush (v := (-2)) hx hb dL_sets_163 (by decide) ?_
              refine lv_icmp_ne (tgt := 172) hx hb dL_sets_165 (by decide) (fun c39 => ?_) (fun c39 => ?_)
              · have hF := it_f hF c39
                refine lv_iconst (v := 0) hx hb dL_sets_172 (by decide) ?_
                exact bz_zret C h hlocks hr (by decide) hF dL_sets_173
              · have hF := it_t hF c39
                refine lv_iconst (v := 1) hx hb dL_sets_168 (by decide) ?_
                refine lv_goto (tgt := 173) hx hb dL_sets_169 (by decide) ?_
                exact bz_zret C h hlocks hr (by decide) hF dL_sets_173
      refine lv_icmp_ne (tgt := 133) hx hb dL_sets_125 (by decide) (fun c40 => ?_) (fun c40 => ?_)
      · have hF := it_f hF c40
        refine lv_iload hx hb dL_sets_133 (lv_at hl 1 rfl) ?_
        exact hj30 _ _ H locs ls hF h (lv_sub hl [2, 5] rfl)
      · have hF := it_t hF c40
        refine lv_bipush (v := (-4)) hx hb dL_sets_128 (by decide) ?_
        refine lv_goto (tgt := 135) hx hb dL_sets_130 (by decide) ?_
        exact hj30 _ _ H locs ls hF h (lv_sub hl [2, 5] rfl)
  · have hF := it_t hF c1
    refine lv_aload_n hx hb dL_sets_5 rfl (lv_at hl 0 rfl) ?_
    refine lv_iload_n hx hb dL_sets_6 rfl (lv_at hl 2 rfl) ?_
    refine lv_iconst (v := 4) hx hb dL_sets_7 (by decide) ?_
    obtain ⟨r41, σ42, qr41, hF⟩ := bd_u hF
    refine bz_callV (rest := []) (st1 := [.int r41]) C h (As := [.int x2_, .int 4]) (o := some (.int r41)) (τ := σ42) (c_X6_motor (l := l) ka0 (res := (r41, σ42)) qr41) ka0 (by decide) (ci := 6) rfl (cwV 2 hts (bz_gV wd_21_4 wd_21_5 wd_21_6 wd_1_2 wd_21_7) rfl rfl rfl (by decide +kernel) ⟨Nat.le_of_ble_eq_true rfl, Nat.le_of_ble_eq_true rfl⟩) rfl hl.1 rfl (by decide) ⟨Nat.le_of_ble_eq_true rfl, Nat.le_of_ble_eq_true rfl⟩ dL_sets_8 rfl (fun H locs h => ?_)
    refine lv_istore (lv' := [(4, .int r41), (0, .ref a0), (1, .int x1_), (2, .int x2_), (3, .int x3_)]) hx hb dL_sets_11 hl (by decide) rfl (fun ls hl => ?_)
    refine lv_aload_n hx hb dL_sets_13 rfl (lv_at hl 1 rfl) ?_
    refine lv_iload_n hx hb dL_sets_14 rfl (lv_at hl 3 rfl) ?_
    refine lv_iload_n hx hb dL_sets_15 rfl (lv_at hl 4 rfl) ?_
    refine lv_bipush (v := 10) hx hb dL_sets_16 (by decide) ?_
    obtain ⟨r43, σ44, qr43, hF⟩ := bd_u hF
    refine bz_callS (rest := [.int x2_, .ref a0]) (st1 := [.int r43, .int x2_, .ref a0]) C h (As := [.int x3_, .int 10]) (o := some (.int r43)) (τ := σ44) (c_L_low (l := l)  (res := (r43, σ44)) qr43) (va_cwS 2 hts (bz_gS wd_20_17 wd_20_18 wd_20_14 wd_20_19) rfl rfl rfl (by decide +kernel) ⟨Nat.le_of_ble_eq_true rfl, Nat.le_of_ble_eq_true rfl⟩) rfl hl.1 rfl (Nat.le_of_ble_eq_true rfl) ⟨Nat.le_of_ble_eq_true rfl, Nat.le_of_ble_eq_true rfl⟩ dL_sets_18 rfl (fun H locs h => ?_)
    obtain ⟨r45, σ46, qr45, hF⟩ := bd_u hF
    refine bz_callV (rest := []) (st1 := [.int r45]) C h (As := [.int x2_, .int r43]) (o := some (.int r45)) (τ := σ46) (c_X6_setNeed (l := l) ka0 (res := (r45, σ46)) qr45) ka0 (by decide) (ci := 6) rfl (cwV 2 hts (bz_gV wd_22_14 wd_22_15 wd_22_16 wd_1_2 wd_22_17) rfl rfl rfl (by decide +kernel) ⟨Nat.le_of_ble_eq_true rfl, Nat.le_of_ble_eq_true rfl⟩) rfl hl.1 rfl (by decide) ⟨Nat.le_of_ble_eq_true rfl, Nat.le_of_ble_eq_true rfl⟩ dL_sets_21 rfl (fun H locs h => ?_)
    refine lv_istore (lv' := [(5, .int r45), (4, .int r41), (0, .ref a0), (1, .int x1_), (2, .int x2_), (3, .int x3_)]) hx hb dL_sets_24 hl (by decide) rfl (fun ls hl => ?_)
    refine lv_iload hx hb dL_sets_26 (lv_at hl 0 rfl) ?_
    refine lv_iload hx hb dL_sets_28 (lv_at hl 1 rfl) ?_
    refine lv_iload_n hx hb dL_sets_30 rfl (lv_at hl 5 rfl) ?_
    refine lv_bipush (v := 10) hx hb dL_sets_31 (by decide) ?_
    obtain ⟨r47, σ48, qr47, hF⟩ := bd_u hF
    refine bz_callS (rest := [.int r41, .int r45]) (st1 := [.int r47, .int r41, .int r45]) C h (As := [.int x3_, .int 10]) (o := some (.int r47)) (τ := σ48) (c_L_low (l := l)  (res := (r47, σ48)) qr47) (va_cwS 2 hts (bz_gS wd_20_17 wd_20_18 wd_20_14 wd_20_19) rfl rfl rfl (by decide +kernel) ⟨Nat.le_of_ble_eq_true rfl, Nat.le_of_ble_eq_true rfl⟩) rfl hl.1 rfl (Nat.le_of_ble_eq_true rfl) ⟨Nat.le_of_ble_eq_true rfl, Nat.le_of_ble_eq_true rfl⟩ dL_sets_33 rfl (fun H locs h => ?_)
    obtain ⟨j51, ej51, hF⟩ := lt_j hF
    have hj51 : ∀ (y49 : Int32) (σ50 : bz_W) (H : Heap) (locs : List Loc) (ls : Array Slot), j51 y49 σ50 = some res → bz_H G s σ50 H locs → lv_has ls 6 [(0, .ref a0), (2, .int x2_), (3, .int x3_)] → W p l e ({ frames := 7, cells := 0, slots := 0, locals := 160 } : Room) s m args below meth c H locs 0 0 (MQ below (bz_Qc G (some (.int res.1)) res.2) args s 0 0 (bz_A G)) (F0 m 46 ls [.int y49, .int r45]) := by
        intro y49 σ50 H locs ls hF h hl
        subst ej51
        refine lv_icmp_ne (tgt := 80) hx hb dL_sets_46 (by decide) (fun c52 => ?_) (fun c52 => ?_)
        · have hF := it_f hF c52
          refine lv_iconst (v := 0) hx hb dL_sets_80 (by decide) ?_
          exact bz_zret C h hlocks hr (by decide) hF dL_sets_81
        · have hF := it_t hF c52
          refine lv_aload_n hx hb dL_sets_49 rfl (lv_at hl 0 rfl) ?_
          refine lv_iload_n hx hb dL_sets_50 rfl (lv_at hl 1 rfl) ?_
          refine lv_iconst (v := 4) hx hb dL_sets_51 (by decide) ?_
          obtain ⟨r53, σ54, qr53, hF⟩ := bd_u hF
          refine bz_callV (rest := []) (st1 := [.int r53]) C h (As := [.int x2_, .int 4]) (o := some (.int r53)) (τ := σ54) (c_X6_motor (l := l) ka0 (res := (r53, σ54)) qr53) ka0 (by decide) (ci := 6) rfl (cwV 2 hts (bz_gV wd_21_4 wd_21_5 wd_21_6 wd_1_2 wd_21_7) rfl rfl rfl (by decide +kernel) ⟨Nat.le_of_ble_eq_true rfl, Nat.le_of_ble_eq_true rfl⟩) rfl hl.1 rfl (by decide) ⟨Nat.le_of_ble_eq_true rfl, Nat.le_of_ble_eq_true rfl⟩ dL_sets_52 rfl (fun H locs h => ?_)
          refine lv_iload_n hx hb dL_sets_55 rfl (lv_at hl 2 rfl) ?_
          refine lv_bipush (v := 10) hx hb dL_sets_56 (by decide) ?_
          obtain ⟨r55, σ56, qr55, hF⟩ := bd_u hF
          refine bz_callS (rest := [.int r53]) (st1 := [.int r55, .int r53]) C h (As := [.int x3_, .int 10]) (o := some (.int r55)) (τ := σ56) (c_L_low (l := l)  (res := (r55, σ56)) qr55) (va_cwS 2 hts (bz_gS wd_20_17 wd_20_18 wd_20_14 wd_20_19) rfl rfl rfl (by decide +kernel) ⟨Nat.le_of_ble_eq_true rfl, Nat.le_of_ble_eq_true rfl⟩) rfl hl.1 rfl (Nat.le_of_ble_eq_true rfl) ⟨Nat.le_of_ble_eq_true rfl, Nat.le_of_ble_eq_true rfl⟩ dL_sets_58 rfl (fun H locs h => ?_)
          refine lv_icmp_ne (tgt := 80) hx hb dL_sets_61 (by decide) (fun c57 => ?_) (fun c57 => ?_)
          · have hF := it_f hF c57
            refine lv_iconst (v := 0) hx hb dL_sets_80 (by decide) ?_
            exact bz_zret C h hlocks hr (by decide) hF dL_sets_81
          · have hF := it_t hF c57
            refine lv_aload_n hx hb dL_sets_64 rfl (lv_at hl 0 rfl) ?_
            refine lv_iload_n hx hb dL_sets_65 rfl (lv_at hl 1 rfl) ?_
            refine lv_bipush (v := 10) hx hb dL_sets_66 (by decide) ?_
            obtain ⟨r58, σ59, qr58, hF⟩ := bd_u hF
            refine bz_callV (rest := []) (st1 := [.int r58]) C h (As := [.int x2_, .int 10]) (o := some (.int r58)) (τ := σ59) (c_X6_setNeed (l := l) ka0 (res := (r58, σ59)) qr58) ka0 (by decide) (ci := 6) rfl (cwV 2 hts (bz_gV wd_22_14 wd_22_15 wd_22_16 wd_1_2 wd_22_17) rfl rfl rfl (by decide +kernel) ⟨Nat.le_of_ble_eq_true rfl, Nat.le_of_ble_eq_true rfl⟩) rfl hl.1 rfl (by decide) ⟨Nat.le_of_ble_eq_true rfl, Nat.le_of_ble_eq_true rfl⟩ dL_sets_68 rfl (fun H locs h => ?_)
            refine lv_bipush (v := (-2)) hx hb dL_sets_71 (by decide) ?_
            refine lv_icmp_ne (tgt := 80) hx hb dL_sets_73 (by decide) (fun c60 => ?_) (fun c60 => ?_)
            · have hF := it_f hF c60
              refine lv_iconst (v := 0) hx hb dL_sets_80 (by decide) ?_
              exact bz_zret C h hlocks hr (by decide) hF dL_sets_81
            · have hF := it_t hF c60
              refine lv_iconst (v := 1) hx hb dL_sets_76 (by decide) ?_
              refine lv_goto (tgt := 81) hx hb dL_sets_77 (by decide) ?_
              exact bz_zret C h hlocks hr (by decide) hF dL_sets_81
    refine lv_icmp_ne (tgt := 44) hx hb dL_sets_36 (by decide) (fun c61 => ?_) (fun c61 => ?_)
    · have hF := it_f hF c61
      refine lv_iload hx hb dL_sets_44 (lv_at hl 1 rfl) ?_
      exact hj51 _ _ H locs ls hF h (lv_sub hl [2, 4, 5] rfl)
    · have hF := it_t hF c61
      refine lv_bipush (v := (-4)) hx hb dL_sets_39 (by decide) ?_
      refine lv_goto (tgt := 46) hx hb dL_sets_41 (by decide) ?_
      exact hj51 _ _ H locs ls hF h (lv_sub hl [2, 4, 5] rfl)
