set_option maxHeartbeats 4000000 in
set_option maxRecDepth 100000 in
theorem c_X2_change {l : Launch} {G : bz_G} {σ : bz_W} {a0 : Nat} {x1_ : Int32} (ka0 : bz_k G a0 = (3, 0)) {res : Int32 × bz_W} (hF : f_X2_change σ a0 x1_ = some res) : bz_M l yX2_change wz_X2_change 0 0 G σ [.ref a0, .int x1_] (some (.int res.1)) res.2 := by
  refine bz_mk (cc := cX2_change) (maxL := 3) (ret := (some .int)) (own := RX2) (by decide) rfl rfl (Nat.le_of_ble_eq_true rfl) ?_
  intro p e s m args below meth c ls C hlocks hr h hl
  have hx := C.1
  have hb := C.2.1
  have hts := C.2.2.2.2.1
  have hl : lv_has ls 3 [(0, .ref a0), (1, .int x1_)] := hl
  obtain ⟨H, eH⟩ : ∃ y, y = s.heap := ⟨_, rfl⟩
  obtain ⟨locs, el⟩ : ∃ y : List Loc, y = [] := ⟨_, rfl⟩
  rw [← el, ← eH] at h ⊢
  unfold f_X2_change at hF
  refine lv_aload_n hx hb dX2_change_0 rfl (lv_at hl 0 rfl) ?_
  refine gf_2_8 C h ka0 iz_X2 (List.mem_cons_of_mem _ wd_5_10) dX2_change_1 ?_
  refine lv_topi (fun x1 ex1 => ?_)
  have hF := lt_u hF x1 ex1
  refine lv_istore_n (lv' := [(2, .int x1), (0, .ref a0), (1, .int x1_)]) hx hb dX2_change_4 rfl hl (by decide) rfl (fun ls hl => ?_)
  refine lv_aload_n hx hb dX2_change_5 rfl (lv_at hl 1 rfl) ?_
  refine lv_iload_n hx hb dX2_change_6 rfl (lv_at hl 2 rfl) ?_
  refine pf_2_8 C h ka0 iz_X2 (List.mem_cons_of_mem _ wd_5_10) dX2_change_7 (fun H locs h => ?_)
  obtain ⟨σ2, eσ2⟩ : ∃ y : bz_W, y = bz_wi σ a0 8 x1_ := ⟨_, rfl⟩
  rw [← eσ2] at h
  have hF := lt_u hF σ2 eσ2
  refine lv_iload_n hx hb dX2_change_10 rfl (lv_at hl 0 rfl) ?_
  exact bz_iret C h hlocks hr hF dX2_change_11
set_option maxHeartbeats 4000000 in
set_option maxRecDepth 100000 in
theorem c_X2_trip {l : Launch} {G : bz_G} {σ : bz_W} {a0 : Nat} {x1_ : Int32} (ka0 : bz_k G a0 = (3, 0)) {res : Int32 × bz_W} (hF : f_X2_trip σ a0 x1_ = some res) : bz_M l yX2_trip wz_X2_trip 0 0 G σ [.ref a0, .int x1_] (some (.int res.1)) res.2 := by
  refine bz_mk (cc := cX2_trip) (maxL := 2) (ret := (some .int)) (own := RX2) (by decide) rfl rfl (Nat.le_of_ble_eq_true rfl) ?_
  intro p e s m args below meth c ls C hlocks hr h hl
  have hx := C.1
  have hb := C.2.1
  have hts := C.2.2.2.2.1
  have hl : lv_has ls 2 [(0, .ref a0), (1, .int x1_)] := hl
  obtain ⟨H, eH⟩ : ∃ y, y = s.heap := ⟨_, rfl⟩
  obtain ⟨locs, el⟩ : ∃ y : List Loc, y = [] := ⟨_, rfl⟩
  rw [← el, ← eH] at h ⊢
  unfold f_X2_trip at hF
  refine lv_aload_n hx hb dX2_trip_0 rfl (lv_at hl 0 rfl) ?_
  refine lv_iconst (v := 4) hx hb dX2_trip_1 (by decide) ?_
  refine pf_2_8 C h ka0 iz_X2 (List.mem_cons_of_mem _ wd_5_10) dX2_trip_2 (fun H locs h => ?_)
  obtain ⟨σ1, eσ1⟩ : ∃ y : bz_W, y = bz_wi σ a0 8 4 := ⟨_, rfl⟩
  rw [← eσ1] at h
  have hF := lt_u hF σ1 eσ1
  refine lv_aload_n hx hb dX2_trip_5 rfl (lv_at hl 0 rfl) ?_
  refine lv_iload_n hx hb dX2_trip_6 rfl (lv_at hl 1 rfl) ?_
  refine pf_2_13 C h ka0 iz_X2 (List.mem_cons_of_mem _ wd_5_15) dX2_trip_7 (fun H locs h => ?_)
  obtain ⟨σ2, eσ2⟩ : ∃ y : bz_W, y = bz_wi σ1 a0 13 x1_ := ⟨_, rfl⟩
  rw [← eσ2] at h
  have hF := lt_u hF σ2 eσ2
  refine lv_aload_n hx hb dX2_trip_10 rfl (lv_at hl 0 rfl) ?_
  refine gf_2_1 C h ka0 iz_X2 (List.mem_cons_of_mem _ wd_3_0) dX2_trip_11 (fun k3 => ?_)
  refine lv_iconst (v := 3) hx hb dX2_trip_14 (by decide) ?_
  refine lv_dup2_11 hx hb dX2_trip_15 rfl rfl ?_
  refine bz_iald C h k3 (by decide) (kx := 3) (bz_cl 3 (by decide)) dX2_trip_16 ?_
  refine lv_iconst (v := 1) hx hb dX2_trip_17 (by decide) ?_
  refine lv_iadd hx hb dX2_trip_18 ?_
  refine bz_iast C h k3 (by decide) (kx := 3) (bz_cl 3 (by decide)) dX2_trip_19 (fun H locs h => ?_)
  obtain ⟨σ4, eσ4⟩ : ∃ y : bz_W, y = bz_wi σ2 (σ2.2 a0 1) 3 ((σ2.1 (σ2.2 a0 1) 3) + 1) := ⟨_, rfl⟩
  rw [← eσ4] at h
  have hF := lt_u hF σ4 eσ4
  refine lv_iload_n hx hb dX2_trip_20 rfl (lv_at hl 1 rfl) ?_
  refine lv_iconst (v := 2) hx hb dX2_trip_21 (by decide) ?_
  refine lv_icmp_ne (tgt := 29) hx hb dX2_trip_22 (by decide) (fun c5 => ?_) (fun c5 => ?_)
  · have hF := it_f hF c5
    refine lv_iconst (v := 5) hx hb dX2_trip_29 (by decide) ?_
    exact bz_iret C h hlocks hr hF dX2_trip_30
  · have hF := it_t hF c5
    refine lv_iconst (v := 4) hx hb dX2_trip_25 (by decide) ?_
    refine lv_goto (tgt := 30) hx hb dX2_trip_26 (by decide) ?_
    exact bz_iret C h hlocks hr hF dX2_trip_30
set_option maxHeartbeats 4000000 in
set_option maxRecDepth 100000 in
theorem c_X2_countSecond {l : Launch} {G : bz_G} {σ : bz_W} {a0 : Nat} (ka0 : bz_k G a0 = (3, 0)) {res : Int32 × bz_W} (hF : f_X2_countSecond σ a0 = some res) : bz_M l yX2_countSecond wz_X2_countSecond 1 20 G σ [.ref a0] none res.2 := by
  refine bz_mk (cc := cX2_countSecond) (maxL := 1) (ret := none) (own := RX2) (by decide) rfl rfl (Nat.le_of_ble_eq_true rfl) ?_
  intro p e s m args below meth c ls C hlocks hr h hl
  have hx := C.1
  have hb := C.2.1
  have hts := C.2.2.2.2.1
  have hl : lv_has ls 1 [(0, .ref a0)] := hl
  obtain ⟨H, eH⟩ : ∃ y, y = s.heap := ⟨_, rfl⟩
  obtain ⟨locs, el⟩ : ∃ y : List Loc, y = [] := ⟨_, rfl⟩
  rw [← el, ← eH] at h ⊢
  unfold f_X2_countSecond at hF
  refine lv_aload_n hx hb dX2_countSecond_0 rfl (lv_at hl 0 rfl) ?_
  obtain ⟨r1, σ2, qr1, hF⟩ := bd_u hF
  refine bz_callV (rest := []) (st1 := [.int r1]) C h (As := []) (o := some (.int r1)) (τ := σ2) (c_X2_turns (l := l) ka0 (res := (r1, σ2)) qr1) ka0 (by decide) (ci := 2) rfl (cwV 0 hts (bz_gV wd_19_18 wd_19_19 wd_19_20 wd_2_11 wd_19_21) rfl rfl rfl (by decide +kernel) ⟨Nat.le_of_ble_eq_true rfl, Nat.le_of_ble_eq_true rfl⟩) rfl hl.1 rfl (by decide) ⟨Nat.le_of_ble_eq_true rfl, Nat.le_of_ble_eq_true rfl⟩ dX2_countSecond_1 rfl (fun H locs h => ?_)
  refine lv_if_eq (tgt := 20) hx hb dX2_countSecond_4 (by decide) (fun c3 => ?_) (fun c3 => ?_)
  · have hF := it_t hF c3
    refine lv_aload_n hx hb dX2_countSecond_20 rfl (lv_at hl 0 rfl) ?_
    refine gf_2_8 C h ka0 iz_X2 (List.mem_cons_of_mem _ wd_5_10) dX2_countSecond_21 ?_
    refine lv_iconst (v := 1) hx hb dX2_countSecond_24 (by decide) ?_
    refine lv_icmp_ne (tgt := 38) hx hb dX2_countSecond_25 (by decide) (fun c4 => ?_) (fun c4 => ?_)
    · have hF := it_f hF c4
      exact bz_vret C h hlocks hr hF dX2_countSecond_38
    · have hF := it_t hF c4
      refine lv_aload_n hx hb dX2_countSecond_28 rfl (lv_at hl 0 rfl) ?_
      refine gf_2_1 C h ka0 iz_X2 (List.mem_cons_of_mem _ wd_3_0) dX2_countSecond_29 (fun k5 => ?_)
      refine lv_iconst (v := 5) hx hb dX2_countSecond_32 (by decide) ?_
      refine lv_dup2_11 hx hb dX2_countSecond_33 rfl rfl ?_
      refine bz_iald C h k5 (by decide) (kx := 5) (bz_cl 5 (by decide)) dX2_countSecond_34 ?_
      refine lv_iconst (v := 1) hx hb dX2_countSecond_35 (by decide) ?_
      refine lv_iadd hx hb dX2_countSecond_36 ?_
      refine bz_iast C h k5 (by decide) (kx := 5) (bz_cl 5 (by decide)) dX2_countSecond_37 (fun H locs h => ?_)
      obtain ⟨σ6, eσ6⟩ : ∃ y : bz_W, y = bz_wi σ2 (σ2.2 a0 1) 5 ((σ2.1 (σ2.2 a0 1) 5) + 1) := ⟨_, rfl⟩
      rw [← eσ6] at h
      have hF := lt_u hF σ6 eσ6
      exact bz_vret C h hlocks hr hF dX2_countSecond_38
  · have hF := it_f hF c3
    refine lv_aload_n hx hb dX2_countSecond_7 rfl (lv_at hl 0 rfl) ?_
    refine gf_2_1 C h ka0 iz_X2 (List.mem_cons_of_mem _ wd_3_0) dX2_countSecond_8 (fun k7 => ?_)
    refine lv_iconst (v := 4) hx hb dX2_countSecond_11 (by decide) ?_
    refine lv_dup2_11 hx hb dX2_countSecond_12 rfl rfl ?_
    refine bz_iald C h k7 (by decide) (kx := 4) (bz_cl 4 (by decide)) dX2_countSecond_13 ?_
    refine lv_iconst (v := 1) hx hb dX2_countSecond_14 (by decide) ?_
    refine lv_iadd hx hb dX2_countSecond_15 ?_
    refine bz_iast C h k7 (by decide) (kx := 4) (bz_cl 4 (by decide)) dX2_countSecond_16 (fun H locs h => ?_)
    obtain ⟨σ8, eσ8⟩ : ∃ y : bz_W, y = bz_wi σ2 (σ2.2 a0 1) 4 ((σ2.1 (σ2.2 a0 1) 4) + 1) := ⟨_, rfl⟩
    rw [← eσ8] at h
    have hF := lt_u hF σ8 eσ8
    refine lv_goto (tgt := 38) hx hb dX2_countSecond_17 (by decide) ?_
    exact bz_vret C h hlocks hr hF dX2_countSecond_38
set_option maxHeartbeats 4000000 in
set_option maxRecDepth 100000 in
theorem c_X6_givenOff {l : Launch} {G : bz_G} {σ : bz_W} {x0_ : Int32} {x1_ : Int32} {x2_ : Int32}  {res : Int32 × bz_W} (hF : f_X6_givenOff σ x0_ x1_ x2_ = some res) : bz_M l yX6_givenOff wz_X6_givenOff 0 0 G σ [.int x0_, .int x1_, .int x2_] (some (.int res.1)) res.2 := by
  refine bz_mk (cc := cX6_givenOff) (maxL := 4) (ret := (some .int)) (own := RX6) (by decide) rfl rfl (Nat.le_of_ble_eq_true rfl) ?_
  intro p e s m args below meth c ls C hlocks hr h hl
  have hx := C.1
  have hb := C.2.1
  have hts := C.2.2.2.2.1
  have hl : lv_has ls 4 [(0, .int x0_), (1, .int x1_), (2, .int x2_)] := hl
  obtain ⟨H, eH⟩ : ∃ y, y = s.heap := ⟨_, rfl⟩
  obtain ⟨locs, el⟩ : ∃ y : List Loc, y = [] := ⟨_, rfl⟩
  rw [← el, ← eH] at h ⊢
  unfold f_X6_givenOff at hF
  refine lv_iload_n hx hb dX6_givenOff_0 rfl (lv_at hl 1 rfl) ?_
  obtain ⟨j3, ej3, hF⟩ := lt_j hF
  have hj3 : ∀ (y1 : Int32) (σ2 : bz_W) (H : Heap) (locs : List Loc) (ls : Array Slot), j3 y1 σ2 = some res → bz_H G s σ2 H locs → lv_has ls 4 [(0, .int x0_), (2, .int x2_)] → W p l e ({ frames := 0, cells := 0, slots := 0, locals := 0 } : Room) s m args below meth c H locs 0 0 (MQ below (bz_Qc G (some (.int res.1)) res.2) args s 0 0 (bz_A G)) (F0 m 11 ls [.int y1]) := by
      intro y1 σ2 H locs ls hF h hl
      subst ej3
      refine lv_iload_n hx hb dX6_givenOff_11 rfl (lv_at hl 1 rfl) ?_
      refine lv_if_eq (tgt := 20) hx hb dX6_givenOff_12 (by decide) (fun c4 => ?_) (fun c4 => ?_)
      · have hF := it_t hF c4
        refine lv_iconst (v := 0) hx hb dX6_givenOff_20 (by decide) ?_
        refine lv_iadd hx hb dX6_givenOff_21 ?_
        refine lv_topi (fun x5 ex5 => ?_)
        have hF := lt_u hF x5 ex5
        refine lv_istore_n (lv' := [(3, .int x5), (0, .int x0_), (2, .int x2_)]) hx hb dX6_givenOff_22 rfl hl (by decide) rfl (fun ls hl => ?_)
        refine lv_iload_n hx hb dX6_givenOff_23 rfl (lv_at hl 1 rfl) ?_
        refine lv_iload_n hx hb dX6_givenOff_24 rfl (lv_at hl 0 rfl) ?_
        refine lv_imul hx hb dX6_givenOff_25 ?_
        refine lv_sipush (v := 1000) hx hb dX6_givenOff_26 (by decide) ?_
        refine lv_idiv hx hb dX6_givenOff_29 (by decide) ?_
        exact bz_iret C h hlocks hr hF dX6_givenOff_30
      · have hF := it_f hF c4
        refine lv_bipush (v := 30) hx hb dX6_givenOff_15 (by decide) ?_
        refine lv_goto (tgt := 21) hx hb dX6_givenOff_17 (by decide) ?_
        refine lv_iadd hx hb dX6_givenOff_21 ?_
        refine lv_topi (fun x6 ex6 => ?_)
        have hF := lt_u hF x6 ex6
        refine lv_istore_n (lv' := [(3, .int x6), (0, .int x0_), (2, .int x2_)]) hx hb dX6_givenOff_22 rfl hl (by decide) rfl (fun ls hl => ?_)
        refine lv_iload_n hx hb dX6_givenOff_23 rfl (lv_at hl 1 rfl) ?_
        refine lv_iload_n hx hb dX6_givenOff_24 rfl (lv_at hl 0 rfl) ?_
        refine lv_imul hx hb dX6_givenOff_25 ?_
        refine lv_sipush (v := 1000) hx hb dX6_givenOff_26 (by decide) ?_
        refine lv_idiv hx hb dX6_givenOff_29 (by decide) ?_
        exact bz_iret C h hlocks hr hF dX6_givenOff_30
  refine lv_if_eq (tgt := 9) hx hb dX6_givenOff_1 (by decide) (fun c7 => ?_) (fun c7 => ?_)
  · have hF := it_t hF c7
    refine lv_bipush (v := 20) hx hb dX6_givenOff_9 (by decide) ?_
    exact hj3 _ _ H locs ls hF h (lv_sub hl [0, 2] rfl)
  · have hF := it_f hF c7
    refine lv_bipush (v := 40) hx hb dX6_givenOff_4 (by decide) ?_
    refine lv_goto (tgt := 11) hx hb dX6_givenOff_6 (by decide) ?_
    exact hj3 _ _ H locs ls hF h (lv_sub hl [0, 2] rfl)
set_option maxHeartbeats 4000000 in
set_option maxRecDepth 100000 in
theorem c_X2_exchangeHeat {l : Launch} {G : bz_G} {σ : bz_W} {a0 : Nat} {x1_ : Int32} (ka0 : bz_k G a0 = (3, 0)) {res : Int32 × bz_W} (hF : f_X2_exchangeHeat σ a0 x1_ = some res) : bz_M l yX2_exchangeHeat wz_X2_exchangeHeat 2 42 G σ [.ref a0, .int x1_] none res.2 := by
  refine bz_mk (cc := cX2_exchangeHeat) (maxL := 4) (ret := none) (own := RX2) (by decide) rfl rfl (Nat.le_of_ble_eq_true rfl) ?_
  intro p e s m args below meth c ls C hlocks hr h hl
  have hx := C.1
  have hb := C.2.1
  have hts := C.2.2.2.2.1
  have hl : lv_has ls 4 [(0, .ref a0), (1, .int x1_)] := hl
  obtain ⟨H, eH⟩ : ∃ y, y = s.heap := ⟨_, rfl⟩
  obtain ⟨locs, el⟩ : ∃ y : List Loc, y = [] := ⟨_, rfl⟩
  rw [← el, ← eH] at h ⊢
  unfold f_X2_exchangeHeat at hF
  refine lv_aload_n hx hb dX2_exchangeHeat_0 rfl (lv_at hl 0 rfl) ?_
  obtain ⟨r1, σ2, qr1, hF⟩ := bd_u hF
  refine bz_callV (rest := []) (st1 := [.int r1]) C h (As := []) (o := some (.int r1)) (τ := σ2) (c_X2_draw (l := l) ka0 (res := (r1, σ2)) qr1) ka0 (by decide) (ci := 2) rfl (cwV 0 hts (bz_gV wd_20_2 wd_17_6 wd_17_7 wd_2_11 wd_17_8) rfl rfl rfl (by decide +kernel) ⟨Nat.le_of_ble_eq_true rfl, Nat.le_of_ble_eq_true rfl⟩) rfl hl.1 rfl (by decide) ⟨Nat.le_of_ble_eq_true rfl, Nat.le_of_ble_eq_true rfl⟩ dX2_exchangeHeat_1 rfl (fun H locs h => ?_)
  obtain ⟨r3, σ4, qr3, hF⟩ := bd_u hF
  refine bz_callN (rest := []) (st1 := [.int r3]) C h (As := [.int r1]) (o := some (.int r3)) (τ := σ4) (c_X6_heatOf (l := l)  (res := (r3, σ4)) qr3) ⟨va_cnB 1 hts (bz_g0 wd_20_4) rfl rfl rfl (C.2.2.2.2.2.1.2.1.2.2.1) (hts _ (List.mem_cons_of_mem _ wd_1_2)) (by decide +kernel) ⟨Nat.le_of_ble_eq_true rfl, Nat.le_of_ble_eq_true rfl⟩, hts _ (List.mem_cons_of_mem _ wd_20_3), trivial⟩ rfl hl.1 rfl (by decide) ⟨Nat.le_of_ble_eq_true rfl, Nat.le_of_ble_eq_true rfl⟩ dX2_exchangeHeat_4 rfl (fun H locs h => ?_)
  refine lv_istore_n (lv' := [(2, .int r3), (0, .ref a0), (1, .int x1_)]) hx hb dX2_exchangeHeat_7 rfl hl (by decide) rfl (fun ls hl => ?_)
  refine lv_aload_n hx hb dX2_exchangeHeat_8 rfl (lv_at hl 1 rfl) ?_
  refine gf_2_10 C h ka0 iz_X2 (List.mem_cons_of_mem _ wd_5_12) dX2_exchangeHeat_9 ?_
  obtain ⟨j7, ej7, hF⟩ := lt_j hF
  have hj7 : ∀ (x5 : Int32) (σ6 : bz_W) (H : Heap) (locs : List Loc) (ls : Array Slot), j7 x5 σ6 = some res → bz_H G s σ6 H locs → lv_has ls 4 [(0, .ref a0), (1, .int x1_), (2, .int x5)] → W p l e ({ frames := 2, cells := 0, slots := 0, locals := 42 } : Room) s m args below meth c H locs 0 0 (MQ below (bz_Qc G none res.2) args s 0 0 (bz_A G)) (F0 m 19 ls []) := by
      intro x5 σ6 H locs ls hF h hl
      subst ej7
      refine lv_aload_n hx hb dX2_exchangeHeat_19 rfl (lv_at hl 0 rfl) ?_
      refine lv_dup hx hb dX2_exchangeHeat_20 rfl ?_
      refine gf_2_9 C h ka0 iz_X2 (List.mem_cons_of_mem _ wd_5_11) dX2_exchangeHeat_21 ?_
      refine lv_iload_n hx hb dX2_exchangeHeat_24 rfl (lv_at hl 2 rfl) ?_
      refine lv_iadd hx hb dX2_exchangeHeat_25 ?_
      refine pf_2_9 C h ka0 iz_X2 (List.mem_cons_of_mem _ wd_5_11) dX2_exchangeHeat_26 (fun H locs h => ?_)
      obtain ⟨σ8, eσ8⟩ : ∃ y : bz_W, y = bz_wi σ6 a0 9 ((σ6.1 a0 9) + x5) := ⟨_, rfl⟩
      rw [← eσ8] at h
      have hF := lt_u hF σ8 eσ8
      refine lv_aload_n hx hb dX2_exchangeHeat_29 rfl (lv_at hl 0 rfl) ?_
      refine gf_2_9 C h ka0 iz_X2 (List.mem_cons_of_mem _ wd_5_11) dX2_exchangeHeat_30 ?_
      refine lv_aload_n hx hb dX2_exchangeHeat_33 rfl (lv_at hl 0 rfl) ?_
      obtain ⟨r9, σ10, qr9, hF⟩ := bd_u hF
      refine bz_callV (rest := [.int (σ8.1 a0 9)]) (st1 := [.int r9, .int (σ8.1 a0 9)]) C h (As := []) (o := some (.int r9)) (τ := σ10) (c_X2_turns (l := l) ka0 (res := (r9, σ10)) qr9) ka0 (by decide) (ci := 2) rfl (cwV 0 hts (bz_gV wd_19_18 wd_19_19 wd_19_20 wd_2_11 wd_19_21) rfl rfl rfl (by decide +kernel) ⟨Nat.le_of_ble_eq_true rfl, Nat.le_of_ble_eq_true rfl⟩) rfl hl.1 rfl (Nat.le_of_ble_eq_true rfl) ⟨Nat.le_of_ble_eq_true rfl, Nat.le_of_ble_eq_true rfl⟩ dX2_exchangeHeat_34 rfl (fun H locs h => ?_)
      refine lv_iload_n hx hb dX2_exchangeHeat_37 rfl (lv_at hl 1 rfl) ?_
      obtain ⟨r11, σ12, qr11, hF⟩ := bd_u hF
      refine bz_callN (rest := []) (st1 := [.int r11]) C h (As := [.int (σ8.1 a0 9), .int r9, .int x1_]) (o := some (.int r11)) (τ := σ12) (c_X6_givenOff (l := l)  (res := (r11, σ12)) qr11) ⟨va_cnB 3 hts (bz_g0 wd_20_6) rfl rfl rfl (C.2.2.2.2.2.1.2.1.2.2.2.1) (hts _ (List.mem_cons_of_mem _ wd_1_2)) (by decide +kernel) ⟨Nat.le_of_ble_eq_true rfl, Nat.le_of_ble_eq_true rfl⟩, hts _ (List.mem_cons_of_mem _ wd_20_5), trivial⟩ rfl hl.1 rfl (by decide) ⟨Nat.le_of_ble_eq_true rfl, Nat.le_of_ble_eq_true rfl⟩ dX2_exchangeHeat_38 rfl (fun H locs h => ?_)
      refine lv_istore_n (lv' := [(3, .int r11), (0, .ref a0), (1, .int x1_), (2, .int x5)]) hx hb dX2_exchangeHeat_41 rfl hl (by decide) rfl (fun ls hl => ?_)
      refine lv_aload_n hx hb dX2_exchangeHeat_42 rfl (lv_at hl 1 rfl) ?_
      refine lv_dup hx hb dX2_exchangeHeat_43 rfl ?_
      refine gf_2_9 C h ka0 iz_X2 (List.mem_cons_of_mem _ wd_5_11) dX2_exchangeHeat_44 ?_
      refine lv_iload_n hx hb dX2_exchangeHeat_47 rfl (lv_at hl 0 rfl) ?_
      refine lv_isub hx hb dX2_exchangeHeat_48 ?_
      refine pf_2_9 C h ka0 iz_X2 (List.mem_cons_of_mem _ wd_5_11) dX2_exchangeHeat_49 (fun H locs h => ?_)
      obtain ⟨σ13, eσ13⟩ : ∃ y : bz_W, y = bz_wi σ12 a0 9 ((σ12.1 a0 9) - r11) := ⟨_, rfl⟩
      rw [← eσ13] at h
      have hF := lt_u hF σ13 eσ13
      refine lv_aload_n hx hb dX2_exchangeHeat_52 rfl (lv_at hl 1 rfl) ?_
      refine gf_2_1 C h ka0 iz_X2 (List.mem_cons_of_mem _ wd_3_0) dX2_exchangeHeat_53 (fun k14 => ?_)
      refine lv_iconst (v := 0) hx hb dX2_exchangeHeat_56 (by decide) ?_
      refine lv_dup2_11 hx hb dX2_exchangeHeat_57 rfl rfl ?_
      refine bz_iald C h k14 (by decide) (kx := 0) (bz_cl 0 (by decide)) dX2_exchangeHeat_58 ?_
      refine lv_iload_n hx hb dX2_exchangeHeat_59 rfl (lv_at hl 3 rfl) ?_
      refine lv_iadd hx hb dX2_exchangeHeat_60 ?_
      refine bz_iast C h k14 (by decide) (kx := 0) (bz_cl 0 (by decide)) dX2_exchangeHeat_61 (fun H locs h => ?_)
      obtain ⟨σ15, eσ15⟩ : ∃ y : bz_W, y = bz_wi σ13 (σ13.2 a0 1) 0 ((σ13.1 (σ13.2 a0 1) 0) + x5) := ⟨_, rfl⟩
      rw [← eσ15] at h
      have hF := lt_u hF σ15 eσ15
      refine lv_aload_n hx hb dX2_exchangeHeat_62 rfl (lv_at hl 1 rfl) ?_
      refine gf_2_1 C h ka0 iz_X2 (List.mem_cons_of_mem _ wd_3_0) dX2_exchangeHeat_63 (fun k16 => ?_)
      refine lv_iconst (v := 1) hx hb dX2_exchangeHeat_66 (by decide) ?_
      refine lv_dup2_11 hx hb dX2_exchangeHeat_67 rfl rfl ?_
      refine bz_iald C h k16 (by decide) (kx := 1) (bz_cl 1 (by decide)) dX2_exchangeHeat_68 ?_
      refine lv_iload_n hx hb dX2_exchangeHeat_69 rfl (lv_at hl 0 rfl) ?_
      refine lv_iadd hx hb dX2_exchangeHeat_70 ?_
      refine bz_iast C h k16 (by decide) (kx := 1) (bz_cl 1 (by decide)) dX2_exchangeHeat_71 (fun H locs h => ?_)
      obtain ⟨σ17, eσ17⟩ : ∃ y : bz_W, y = bz_wi σ15 (σ15.2 a0 1) 1 ((σ15.1 (σ15.2 a0 1) 1) + r11) := ⟨_, rfl⟩
      rw [← eσ17] at h
      have hF := lt_u hF σ17 eσ17
      exact bz_vret C h hlocks hr hF dX2_exchangeHeat_72
  refine lv_if_eq (tgt := 19) hx hb dX2_exchangeHeat_12 (by decide) (fun c18 => ?_) (fun c18 => ?_)
  · have hF := it_t hF c18
    exact hj7 _ _ H locs ls hF h (lv_sub hl [1, 2, 0] rfl)
  · have hF := it_f hF c18
    refine lv_iload_n hx hb dX2_exchangeHeat_15 rfl (lv_at hl 0 rfl) ?_
    refine lv_iconst (v := 2) hx hb dX2_exchangeHeat_16 (by decide) ?_
    refine lv_imul hx hb dX2_exchangeHeat_17 ?_
    refine lv_topi (fun x19 ex19 => ?_)
    have hF := lt_u hF x19 ex19
    refine lv_istore_n (lv' := [(2, .int x19), (0, .ref a0), (1, .int x1_)]) hx hb dX2_exchangeHeat_18 rfl hl (by decide) rfl (fun ls hl => ?_)
    exact hj7 _ _ H locs ls hF h (lv_sub hl [1, 2, 0] rfl)
set_option maxHeartbeats 4000000 in
set_option maxRecDepth 100000 in
theorem c_X2_endSecond {l : Launch} {G : bz_G} {σ : bz_W} {a0 : Nat} (ka0 : bz_k G a0 = (3, 0)) {res : Int32 × bz_W} (hF : f_X2_endSecond σ a0 = some res) : bz_M l yX2_endSecond wz_X2_endSecond 1 21 G σ [.ref a0] (some (.int res.1)) res.2 := by
  refine bz_mk (cc := cX2_endSecond) (maxL := 1) (ret := (some .int)) (own := RX2) (by decide) rfl rfl (Nat.le_of_ble_eq_true rfl) ?_
  intro p e s m args below meth c ls C hlocks hr h hl
  have hx := C.1
  have hb := C.2.1
  have hts := C.2.2.2.2.1
  have hl : lv_has ls 1 [(0, .ref a0)] := hl
  obtain ⟨H, eH⟩ : ∃ y, y = s.heap := ⟨_, rfl⟩
  obtain ⟨locs, el⟩ : ∃ y : List Loc, y = [] := ⟨_, rfl⟩
  rw [← el, ← eH] at h ⊢
  unfold f_X2_endSecond at hF
  refine lv_aload_n hx hb dX2_endSecond_0 rfl (lv_at hl 0 rfl) ?_
  refine lv_aload_n hx hb dX2_endSecond_1 rfl (lv_at hl 0 rfl) ?_
  refine gf_2_8 C h ka0 iz_X2 (List.mem_cons_of_mem _ wd_5_10) dX2_endSecond_2 ?_
  refine lv_iconst (v := 3) hx hb dX2_endSecond_5 (by decide) ?_
  obtain ⟨j3, ej3, hF⟩ := lt_j hF
  have hj3 : ∀ (y1 : Int32) (σ2 : bz_W) (H : Heap) (locs : List Loc) (ls : Array Slot), j3 y1 σ2 = some res → bz_H G s σ2 H locs → lv_has ls 1 [(0, .ref a0)] → W p l e ({ frames := 1, cells := 0, slots := 0, locals := 21 } : Room) s m args below meth c H locs 0 0 (MQ below (bz_Qc G (some (.int res.1)) res.2) args s 0 0 (bz_A G)) (F0 m 26 ls [.int y1, .ref a0]) := by
      intro y1 σ2 H locs ls hF h hl
      subst ej3
      refine pf_2_14 C h ka0 iz_X2 (List.mem_cons_of_mem _ wd_5_16) dX2_endSecond_26 (fun H locs h => ?_)
      obtain ⟨σ4, eσ4⟩ : ∃ y : bz_W, y = bz_wi σ2 a0 14 y1 := ⟨_, rfl⟩
      rw [← eσ4] at h
      have hF := lt_u hF σ4 eσ4
      refine lv_aload_n hx hb dX2_endSecond_29 rfl (lv_at hl 0 rfl) ?_
      obtain ⟨r5, σ6, qr5, hF⟩ := bd_u hF
      refine bz_callV (rest := []) (st1 := [.int r5]) C h (As := []) (o := some (.int r5)) (τ := σ6) (c_X2_turns (l := l) ka0 (res := (r5, σ6)) qr5) ka0 (by decide) (ci := 2) rfl (cwV 0 hts (bz_gV wd_19_18 wd_19_19 wd_19_20 wd_2_11 wd_19_21) rfl rfl rfl (by decide +kernel) ⟨Nat.le_of_ble_eq_true rfl, Nat.le_of_ble_eq_true rfl⟩) rfl hl.1 rfl (by decide) ⟨Nat.le_of_ble_eq_true rfl, Nat.le_of_ble_eq_true rfl⟩ dX2_endSecond_30 rfl (fun H locs h => ?_)
      refine lv_if_ne (tgt := 38) hx hb dX2_endSecond_33 (by decide) (fun c7 => ?_) (fun c7 => ?_)
      · have hF := it_f hF c7
        refine lv_aload_n hx hb dX2_endSecond_38 rfl (lv_at hl 0 rfl) ?_
        refine gf_2_9 C h ka0 iz_X2 (List.mem_cons_of_mem _ wd_5_11) dX2_endSecond_39 ?_
        refine lv_aload_n hx hb dX2_endSecond_42 rfl (lv_at hl 0 rfl) ?_
        refine gf_2_5 C h ka0 iz_X2 (List.mem_cons_of_mem _ wd_5_7) dX2_endSecond_43 ?_
        refine lv_icmp_le (tgt := 55) hx hb dX2_endSecond_46 (by decide) (fun c8 => ?_) (fun c8 => ?_)
        · have hF := it_t hF c8
          refine lv_aload_n hx hb dX2_endSecond_55 rfl (lv_at hl 0 rfl) ?_
          refine gf_2_14 C h ka0 iz_X2 (List.mem_cons_of_mem _ wd_5_16) dX2_endSecond_56 ?_
          refine lv_iconst (v := 3) hx hb dX2_endSecond_59 (by decide) ?_
          refine lv_icmp_lt (tgt := 69) hx hb dX2_endSecond_60 (by decide) (fun c9 => ?_) (fun c9 => ?_)
          · have hF := it_t hF c9
            refine lv_aload_n hx hb dX2_endSecond_69 rfl (lv_at hl 0 rfl) ?_
            refine gf_2_8 C h ka0 iz_X2 (List.mem_cons_of_mem _ wd_5_10) dX2_endSecond_70 ?_
            refine lv_iconst (v := 3) hx hb dX2_endSecond_73 (by decide) ?_
            refine lv_icmp_ne (tgt := 79) hx hb dX2_endSecond_74 (by decide) (fun c10 => ?_) (fun c10 => ?_)
            · have hF := it_f hF c10
              refine lv_aload_n hx hb dX2_endSecond_79 rfl (lv_at hl 0 rfl) ?_
              refine lv_dup hx hb dX2_endSecond_80 rfl ?_
              refine gf_2_11 C h ka0 iz_X2 (List.mem_cons_of_mem _ wd_5_13) dX2_endSecond_81 ?_
              refine lv_iconst (v := 1) hx hb dX2_endSecond_84 (by decide) ?_
              refine lv_iadd hx hb dX2_endSecond_85 ?_
              refine pf_2_11 C h ka0 iz_X2 (List.mem_cons_of_mem _ wd_5_13) dX2_endSecond_86 (fun H locs h => ?_)
              obtain ⟨σ11, eσ11⟩ : ∃ y : bz_W, y = bz_wi σ6 a0 11 ((σ6.1 a0 11) + 1) := ⟨_, rfl⟩
              rw [← eσ11] at h
              have hF := lt_u hF σ11 eσ11
              refine lv_aload_n hx hb dX2_endSecond_89 rfl (lv_at hl 0 rfl) ?_
              refine gf_2_11 C h ka0 iz_X2 (List.mem_cons_of_mem _ wd_5_13) dX2_endSecond_90 ?_
              refine lv_aload_n hx hb dX2_endSecond_93 rfl (lv_at hl 0 rfl) ?_
              refine gf_2_3 C h ka0 iz_X2 (List.mem_cons_of_mem _ wd_5_5) dX2_endSecond_94 ?_
              refine lv_icmp_ge (tgt := 102) hx hb dX2_endSecond_97 (by decide) (fun c12 => ?_) (fun c12 => ?_)
              · have hF := it_t hF c12
                refine lv_aload_n hx hb dX2_endSecond_102 rfl (lv_at hl 0 rfl) ?_
                refine lv_iconst (v := 3) hx hb dX2_endSecond_103 (by decide) ?_
                refine pf_2_8 C h ka0 iz_X2 (List.mem_cons_of_mem _ wd_5_10) dX2_endSecond_104 (fun H locs h => ?_)
                obtain ⟨σ13, eσ13⟩ : ∃ y : bz_W, y = bz_wi σ11 a0 8 3 := ⟨_, rfl⟩
                rw [← eσ13] at h
                have hF := lt_u hF σ13 eσ13
                refine lv_iconst (v := 2) hx hb dX2_endSecond_107 (by decide) ?_
                exact bz_iret C h hlocks hr hF dX2_endSecond_108
              · have hF := it_f hF c12
                refine lv_iconst (v := 0) hx hb dX2_endSecond_100 (by decide) ?_
                exact bz_iret C h hlocks hr hF dX2_endSecond_101
            · have hF := it_t hF c10
              refine lv_iconst (v := 0) hx hb dX2_endSecond_77 (by decide) ?_
              exact bz_iret C h hlocks hr hF dX2_endSecond_78
          · have hF := it_f hF c9
            refine lv_aload_n hx hb dX2_endSecond_63 rfl (lv_at hl 0 rfl) ?_
            refine lv_iconst (v := 4) hx hb dX2_endSecond_64 (by decide) ?_
            obtain ⟨r14, σ15, qr14, hF⟩ := bd_u hF
            refine bz_callV (rest := []) (st1 := [.int r14]) C h (As := [.int 4]) (o := some (.int r14)) (τ := σ15) (c_X2_trip (l := l) ka0 (res := (r14, σ15)) qr14) ka0 (by decide) (ci := 2) rfl (cwV 1 hts (bz_gV wd_20_11 wd_10_13 wd_10_14 wd_2_11 wd_10_15) rfl rfl rfl (by decide +kernel) ⟨Nat.le_of_ble_eq_true rfl, Nat.le_of_ble_eq_true rfl⟩) rfl hl.1 rfl (by decide) ⟨Nat.le_of_ble_eq_true rfl, Nat.le_of_ble_eq_true rfl⟩ dX2_endSecond_65 rfl (fun H locs h => ?_)
            exact bz_iret C h hlocks hr hF dX2_endSecond_68
        · have hF := it_f hF c8
          refine lv_aload_n hx hb dX2_endSecond_49 rfl (lv_at hl 0 rfl) ?_
          refine lv_iconst (v := 2) hx hb dX2_endSecond_50 (by decide) ?_
          obtain ⟨r16, σ17, qr16, hF⟩ := bd_u hF
          refine bz_callV (rest := []) (st1 := [.int r16]) C h (As := [.int 2]) (o := some (.int r16)) (τ := σ17) (c_X2_trip (l := l) ka0 (res := (r16, σ17)) qr16) ka0 (by decide) (ci := 2) rfl (cwV 1 hts (bz_gV wd_20_11 wd_10_13 wd_10_14 wd_2_11 wd_10_15) rfl rfl rfl (by decide +kernel) ⟨Nat.le_of_ble_eq_true rfl, Nat.le_of_ble_eq_true rfl⟩) rfl hl.1 rfl (by decide) ⟨Nat.le_of_ble_eq_true rfl, Nat.le_of_ble_eq_true rfl⟩ dX2_endSecond_51 rfl (fun H locs h => ?_)
          exact bz_iret C h hlocks hr hF dX2_endSecond_54
      · have hF := it_t hF c7
        refine lv_iconst (v := 0) hx hb dX2_endSecond_36 (by decide) ?_
        exact bz_iret C h hlocks hr hF dX2_endSecond_37
  obtain ⟨j19, ej19, hF⟩ := lt_j hF
  have hj19 : ∀ (σ18 : bz_W) (H : Heap) (locs : List Loc) (ls : Array Slot), j19 σ18 = some res → bz_H G s σ18 H locs → lv_has ls 1 [(0, .ref a0)] → W p l e ({ frames := 1, cells := 0, slots := 0, locals := 21 } : Room) s m args below meth c H locs 0 0 (MQ below (bz_Qc G (some (.int res.1)) res.2) args s 0 0 (bz_A G)) (F0 m 25 ls [.ref a0]) := by
      intro σ18 H locs ls hF h hl
      subst ej19
      refine lv_iconst (v := 0) hx hb dX2_endSecond_25 (by decide) ?_
      exact hj3 _ _ H locs ls hF h (lv_sub hl [0] rfl)
  refine lv_icmp_ne (tgt := 25) hx hb dX2_endSecond_6 (by decide) (fun c20 => ?_) (fun c20 => ?_)
  · have hF := it_f hF c20
    exact hj19 _ H locs ls hF h (lv_sub hl [0] rfl)
  · have hF := it_t hF c20
    refine lv_aload_n hx hb dX2_endSecond_9 rfl (lv_at hl 0 rfl) ?_
    refine gf_2_10 C h ka0 iz_X2 (List.mem_cons_of_mem _ wd_5_12) dX2_endSecond_10 ?_
    refine lv_if_eq (tgt := 25) hx hb dX2_endSecond_13 (by decide) (fun c21 => ?_) (fun c21 => ?_)
    · have hF := it_t hF c21
      exact hj19 _ H locs ls hF h (lv_sub hl [0] rfl)
    · have hF := it_f hF c21
      refine lv_aload_n hx hb dX2_endSecond_16 rfl (lv_at hl 0 rfl) ?_
      refine gf_2_14 C h ka0 iz_X2 (List.mem_cons_of_mem _ wd_5_16) dX2_endSecond_17 ?_
      refine lv_iconst (v := 1) hx hb dX2_endSecond_20 (by decide) ?_
      refine lv_iadd hx hb dX2_endSecond_21 ?_
      refine lv_goto (tgt := 26) hx hb dX2_endSecond_22 (by decide) ?_
      exact hj3 _ _ H locs ls hF h (lv_sub hl [0] rfl)
set_option maxHeartbeats 4000000 in
set_option maxRecDepth 100000 in
theorem c_X3_find {l : Launch} {G : bz_G} {σ : bz_W} {a0 : Nat} {x1_ : Int32} (ka0 : bz_k G a0 = (4, 0)) {res : Nat × bz_W} (hF : f_X3_find σ a0 x1_ = some res) : bz_M l yX3_find wz_X3_find 0 0 G σ [.ref a0, .int x1_] (some (bz_rv res.1)) res.2 := by
  refine bz_mk (cc := cX3_find) (maxL := 2) (ret := (some (.object "StarterBay$Motor"))) (own := RX3) (by decide) rfl rfl (Nat.le_of_ble_eq_true rfl) ?_
  intro p e s m args below meth c ls C hlocks hr h hl
  have hx := C.1
  have hb := C.2.1
  have hts := C.2.2.2.2.1
  have hl : lv_has ls 2 [(0, .ref a0), (1, .int x1_)] := hl
  obtain ⟨H, eH⟩ : ∃ y, y = s.heap := ⟨_, rfl⟩
  obtain ⟨locs, el⟩ : ∃ y : List Loc, y = [] := ⟨_, rfl⟩
  rw [← el, ← eH] at h ⊢
  unfold f_X3_find at hF
  refine lv_iload_n hx hb dX3_find_0 rfl (lv_at hl 1 rfl) ?_
  refine lv_if_lt (tgt := 12) hx hb dX3_find_1 (by decide) (fun c1 => ?_) (fun c1 => ?_)
  · have hF := it_t hF c1
    refine lv_null hx hb dX3_find_12 ?_
    refine lv_goto (tgt := 22) hx hb dX3_find_13 (by decide) ?_
    exact bz_aret C h hlocks hr rfl hF dX3_find_22
  · have hF := it_f hF c1
    refine lv_iload_n hx hb dX3_find_4 rfl (lv_at hl 1 rfl) ?_
    refine lv_aload_n hx hb dX3_find_5 rfl (lv_at hl 0 rfl) ?_
    refine gf_3_3 C h ka0 iz_X3 (List.mem_cons_of_mem _ wd_4_20) dX3_find_6 ?_
    refine lv_icmp_lt (tgt := 16) hx hb dX3_find_9 (by decide) (fun c2 => ?_) (fun c2 => ?_)
    · have hF := it_t hF c2
      refine lv_aload_n hx hb dX3_find_16 rfl (lv_at hl 0 rfl) ?_
      refine gf_3_0 C h ka0 iz_X3 (List.mem_cons_of_mem _ wd_2_9) dX3_find_17 (fun k3 => ?_)
      refine lv_iload_n hx hb dX3_find_20 rfl (lv_at hl 1 rfl) ?_
      obtain ⟨c4, hF⟩ := ck_u hF
      refine bz_aaldm C h k3 c4 (kx := x1_.toNatClampNeg) rfl dX3_find_21 (fun k5 => ?_)
      exact bz_aret C h hlocks hr (bz_rv0 C.2.2.2.2.2.1.2.2.2 k5 (by decide)).symm hF dX3_find_22
    · have hF := it_f hF c2
      refine lv_null hx hb dX3_find_12 ?_
      refine lv_goto (tgt := 22) hx hb dX3_find_13 (by decide) ?_
      exact bz_aret C h hlocks hr rfl hF dX3_find_22
set_option maxHeartbeats 4000000 in
set_option maxRecDepth 100000 in
theorem c_X3_note {l : Launch} {G : bz_G} {σ : bz_W} {a0 : Nat} {a1 : Nat} {x2_ : Int32} (ka0 : bz_k G a0 = (4, 0)) (ka1 : bz_k G a1 = (3, 0)) {res : Int32 × bz_W} (hF : f_X3_note σ a0 a1 x2_ = some res) : bz_M l yX3_note wz_X3_note 2 46 G σ [.ref a0, .ref a1, .int x2_] none res.2 := by
  refine bz_mk (cc := cX3_note) (maxL := 3) (ret := none) (own := RX3) (by decide) rfl rfl (Nat.le_of_ble_eq_true rfl) ?_
  intro p e s m args below meth c ls C hlocks hr h hl
  have hx := C.1
  have hb := C.2.1
  have hts := C.2.2.2.2.1
  have hl : lv_has ls 3 [(0, .ref a0), (1, .ref a1), (2, .int x2_)] := hl
  obtain ⟨H, eH⟩ : ∃ y, y = s.heap := ⟨_, rfl⟩
  obtain ⟨locs, el⟩ : ∃ y : List Loc, y = [] := ⟨_, rfl⟩
  rw [← el, ← eH] at h ⊢
  unfold f_X3_note at hF
  refine lv_iload_n hx hb dX3_note_0 rfl (lv_at hl 2 rfl) ?_
  refine lv_if_eq (tgt := 20) hx hb dX3_note_1 (by decide) (fun c1 => ?_) (fun c1 => ?_)
  · have hF := it_t hF c1
    exact bz_vret C h hlocks hr hF dX3_note_20
  · have hF := it_f hF c1
    refine lv_aload_n hx hb dX3_note_4 rfl (lv_at hl 0 rfl) ?_
    refine gf_3_2 C h ka0 iz_X3 (List.mem_cons_of_mem _ wd_2_17) dX3_note_5 (fun k2 => ?_)
    refine lv_aload_n hx hb dX3_note_8 rfl (lv_at hl 0 rfl) ?_
    refine gf_3_4 C h ka0 iz_X3 (List.mem_cons_of_mem _ wd_4_21) dX3_note_9 ?_
    refine lv_aload_n hx hb dX3_note_12 rfl (lv_at hl 1 rfl) ?_
    refine gf_2_0 C h ka1 iz_X2 (List.mem_cons_of_mem _ wd_9_23) dX3_note_13 ?_
    refine lv_iload_n hx hb dX3_note_16 rfl (lv_at hl 2 rfl) ?_
    obtain ⟨r3, σ4, qr3, hF⟩ := bd_u hF
    refine bz_callV (rest := []) (st1 := []) C h (As := [.int (σ.1 a0 4), .int (σ.1 a1 0), .int x2_]) (o := none) (τ := σ4) (c_X0_add (l := l) k2 (res := (r3, σ4)) qr3) k2 (by decide) (ci := 0) rfl (cwV 3 hts (bz_gV wd_10_0 wd_10_1 wd_10_2 wd_2_16 wd_10_3) rfl rfl rfl (by decide +kernel) ⟨Nat.le_of_ble_eq_true rfl, Nat.le_of_ble_eq_true rfl⟩) rfl hl.1 rfl (by decide) ⟨Nat.le_of_ble_eq_true rfl, Nat.le_of_ble_eq_true rfl⟩ dX3_note_17 rfl (fun H locs h => ?_)
    exact bz_vret C h hlocks hr hF dX3_note_20
set_option maxHeartbeats 4000000 in
set_option maxRecDepth 100000 in
theorem c_X3_urgency {l : Launch} {G : bz_G} {σ : bz_W} {a0 : Nat} {a1 : Nat} (ka0 : bz_k G a0 = (4, 0)) (ka1 : bz_k G a1 = (3, 0)) {res : Int32 × bz_W} (hF : f_X3_urgency σ a0 a1 = some res) : bz_M l yX3_urgency wz_X3_urgency 0 0 G σ [.ref a0, .ref a1] (some (.int res.1)) res.2 := by
  refine bz_mk (cc := cX3_urgency) (maxL := 2) (ret := (some .int)) (own := RX3) (by decide) rfl rfl (Nat.le_of_ble_eq_true rfl) ?_
  intro p e s m args below meth c ls C hlocks hr h hl
  have hx := C.1
  have hb := C.2.1
  have hts := C.2.2.2.2.1
  have hl : lv_has ls 2 [(0, .ref a0), (1, .ref a1)] := hl
  obtain ⟨H, eH⟩ : ∃ y, y = s.heap := ⟨_, rfl⟩
  obtain ⟨locs, el⟩ : ∃ y : List Loc, y = [] := ⟨_, rfl⟩
  rw [← el, ← eH] at h ⊢
  unfold f_X3_urgency at hF
  refine lv_aload_n hx hb dX3_urgency_0 rfl (lv_at hl 1 rfl) ?_
  refine gf_2_7 C h ka1 iz_X2 (List.mem_cons_of_mem _ wd_7_21) dX3_urgency_1 ?_
  refine lv_aload_n hx hb dX3_urgency_4 rfl (lv_at hl 0 rfl) ?_
  refine gf_3_4 C h ka0 iz_X3 (List.mem_cons_of_mem _ wd_4_21) dX3_urgency_5 ?_
  refine lv_aload_n hx hb dX3_urgency_8 rfl (lv_at hl 1 rfl) ?_
  refine gf_2_12 C h ka1 iz_X2 (List.mem_cons_of_mem _ wd_7_16) dX3_urgency_9 ?_
  refine lv_isub hx hb dX3_urgency_12 ?_
  refine lv_bipush (v := 10) hx hb dX3_urgency_13 (by decide) ?_
  refine lv_idiv hx hb dX3_urgency_15 (by decide) ?_
  refine lv_iadd hx hb dX3_urgency_16 ?_
  exact bz_iret C h hlocks hr hF dX3_urgency_17
set_option maxHeartbeats 4000000 in
set_option maxRecDepth 100000 in
theorem c_X3_isAhead {l : Launch} {G : bz_G} {σ : bz_W} {a0 : Nat} {x1_ : Int32} {x2_ : Int32} (ka0 : bz_k G a0 = (4, 0)) {res : Int32 × bz_W} (hF : f_X3_isAhead σ a0 x1_ x2_ = some res) : bz_M l yX3_isAhead wz_X3_isAhead 1 21 G σ [.ref a0, .int x1_, .int x2_] (some (.int res.1)) res.2 := by
  refine bz_mk (cc := cX3_isAhead) (maxL := 7) (ret := (some .boolean)) (own := RX3) (by decide) rfl rfl (Nat.le_of_ble_eq_true rfl) ?_
  intro p e s m args below meth c ls C hlocks hr h hl
  have hx := C.1
  have hb := C.2.1
  have hts := C.2.2.2.2.1
  have hl : lv_has ls 7 [(0, .ref a0), (1, .int x1_), (2, .int x2_)] := hl
  obtain ⟨H, eH⟩ : ∃ y, y = s.heap := ⟨_, rfl⟩
  obtain ⟨locs, el⟩ : ∃ y : List Loc, y = [] := ⟨_, rfl⟩
  rw [← el, ← eH] at h ⊢
  unfold f_X3_isAhead at hF
  refine lv_aload_n hx hb dX3_isAhead_0 rfl (lv_at hl 0 rfl) ?_
  refine gf_3_0 C h ka0 iz_X3 (List.mem_cons_of_mem _ wd_2_9) dX3_isAhead_1 (fun k1 => ?_)
  refine lv_iload_n hx hb dX3_isAhead_4 rfl (lv_at hl 1 rfl) ?_
  obtain ⟨c2, hF⟩ := ck_u hF
  refine bz_aaldm C h k1 c2 (kx := x1_.toNatClampNeg) rfl dX3_isAhead_5 (fun k3 => ?_)
  refine lv_astore_n (lv' := [(3, .ref (σ.2 (σ.2 a0 0) x1_.toNatClampNeg)), (0, .ref a0), (1, .int x1_), (2, .int x2_)]) hx hb dX3_isAhead_6 rfl hl (by decide) rfl (fun ls hl => ?_)
  refine lv_aload_n hx hb dX3_isAhead_7 rfl (lv_at hl 1 rfl) ?_
  refine gf_3_0 C h ka0 iz_X3 (List.mem_cons_of_mem _ wd_2_9) dX3_isAhead_8 (fun k4 => ?_)
  refine lv_iload_n hx hb dX3_isAhead_11 rfl (lv_at hl 3 rfl) ?_
  obtain ⟨c5, hF⟩ := ck_u hF
  refine bz_aaldm C h k4 c5 (kx := x2_.toNatClampNeg) rfl dX3_isAhead_12 (fun k6 => ?_)
  refine lv_astore (lv' := [(4, .ref (σ.2 (σ.2 a0 0) x2_.toNatClampNeg)), (3, .ref (σ.2 (σ.2 a0 0) x1_.toNatClampNeg)), (0, .ref a0), (1, .int x1_), (2, .int x2_)]) hx hb dX3_isAhead_13 hl (by decide) rfl (fun ls hl => ?_)
  refine lv_aload_n hx hb dX3_isAhead_15 rfl (lv_at hl 2 rfl) ?_
  refine lv_aload_n hx hb dX3_isAhead_16 rfl (lv_at hl 1 rfl) ?_
  obtain ⟨r7, σ8, qr7, hF⟩ := bd_u hF
  refine bz_callV (rest := []) (st1 := [.int r7]) C h (As := [.ref (σ.2 (σ.2 a0 0) x1_.toNatClampNeg)]) (o := some (.int r7)) (τ := σ8) (c_X3_urgency (l := l) ka0 k3 (res := (r7, σ8)) qr7) ka0 (by decide) (ci := 3) rfl (cwV 1 hts (bz_gV wd_7_17 wd_7_18 wd_7_19 wd_1_11 wd_7_20) rfl rfl rfl (by decide +kernel) ⟨Nat.le_of_ble_eq_true rfl, Nat.le_of_ble_eq_true rfl⟩) rfl hl.1 rfl (by decide) ⟨Nat.le_of_ble_eq_true rfl, Nat.le_of_ble_eq_true rfl⟩ dX3_isAhead_17 rfl (fun H locs h => ?_)
  refine lv_istore (lv' := [(5, .int r7), (4, .ref (σ.2 (σ.2 a0 0) x2_.toNatClampNeg)), (3, .ref (σ.2 (σ.2 a0 0) x1_.toNatClampNeg)), (0, .ref a0), (1, .int x1_), (2, .int x2_)]) hx hb dX3_isAhead_20 hl (by decide) rfl (fun ls hl => ?_)
  refine lv_aload_n hx hb dX3_isAhead_22 rfl (lv_at hl 3 rfl) ?_
  refine lv_aload hx hb dX3_isAhead_23 (lv_at hl 1 rfl) ?_
  obtain ⟨r9, σ10, qr9, hF⟩ := bd_u hF
  refine bz_callV (rest := []) (st1 := [.int r9]) C h (As := [.ref (σ.2 (σ.2 a0 0) x2_.toNatClampNeg)]) (o := some (.int r9)) (τ := σ10) (c_X3_urgency (l := l) ka0 k6 (res := (r9, σ10)) qr9) ka0 (by decide) (ci := 3) rfl (cwV 1 hts (bz_gV wd_7_17 wd_7_18 wd_7_19 wd_1_11 wd_7_20) rfl rfl rfl (by decide +kernel) ⟨Nat.le_of_ble_eq_true rfl, Nat.le_of_ble_eq_true rfl⟩) rfl hl.1 rfl (by decide) ⟨Nat.le_of_ble_eq_true rfl, Nat.le_of_ble_eq_true rfl⟩ dX3_isAhead_25 rfl (fun H locs h => ?_)
  refine lv_istore (lv' := [(6, .int r9), (5, .int r7), (4, .ref (σ.2 (σ.2 a0 0) x2_.toNatClampNeg)), (3, .ref (σ.2 (σ.2 a0 0) x1_.toNatClampNeg)), (0, .ref a0), (1, .int x1_), (2, .int x2_)]) hx hb dX3_isAhead_28 hl (by decide) rfl (fun ls hl => ?_)
  refine lv_iload hx hb dX3_isAhead_30 (lv_at hl 1 rfl) ?_
  refine lv_iload hx hb dX3_isAhead_32 (lv_at hl 0 rfl) ?_
  refine lv_icmp_eq (tgt := 50) hx hb dX3_isAhead_34 (by decide) (fun c11 => ?_) (fun c11 => ?_)
  · have hF := it_t hF c11
    refine lv_aload_n hx hb dX3_isAhead_50 rfl (lv_at hl 3 rfl) ?_
    refine gf_2_12 C h k3 iz_X2 (List.mem_cons_of_mem _ wd_7_16) dX3_isAhead_51 ?_
    refine lv_aload hx hb dX3_isAhead_54 (lv_at hl 2 rfl) ?_
    refine gf_2_12 C h k6 iz_X2 (List.mem_cons_of_mem _ wd_7_16) dX3_isAhead_56 ?_
    refine lv_icmp_eq (tgt := 80) hx hb dX3_isAhead_59 (by decide) (fun c12 => ?_) (fun c12 => ?_)
    · have hF := it_t hF c12
      refine lv_iload_n hx hb dX3_isAhead_80 rfl (lv_at hl 5 rfl) ?_
      refine lv_iload_n hx hb dX3_isAhead_81 rfl (lv_at hl 6 rfl) ?_
      refine lv_icmp_ge (tgt := 89) hx hb dX3_isAhead_82 (by decide) (fun c13 => ?_) (fun c13 => ?_)
      · have hF := it_t hF c13
        refine lv_iconst (v := 0) hx hb dX3_isAhead_89 (by decide) ?_
        exact bz_zret C h hlocks hr (by decide) hF dX3_isAhead_90
      · have hF := it_f hF c13
        refine lv_iconst (v := 1) hx hb dX3_isAhead_85 (by decide) ?_
        refine lv_goto (tgt := 90) hx hb dX3_isAhead_86 (by decide) ?_
        exact bz_zret C h hlocks hr (by decide) hF dX3_isAhead_90
    · have hF := it_f hF c12
      refine lv_aload_n hx hb dX3_isAhead_62 rfl (lv_at hl 3 rfl) ?_
      refine gf_2_12 C h k3 iz_X2 (List.mem_cons_of_mem _ wd_7_16) dX3_isAhead_63 ?_
      refine lv_aload hx hb dX3_isAhead_66 (lv_at hl 2 rfl) ?_
      refine gf_2_12 C h k6 iz_X2 (List.mem_cons_of_mem _ wd_7_16) dX3_isAhead_68 ?_
      refine lv_icmp_ge (tgt := 78) hx hb dX3_isAhead_71 (by decide) (fun c14 => ?_) (fun c14 => ?_)
      · have hF := it_t hF c14
        refine lv_iconst (v := 0) hx hb dX3_isAhead_78 (by decide) ?_
        exact bz_zret C h hlocks hr (by decide) hF dX3_isAhead_79
      · have hF := it_f hF c14
        refine lv_iconst (v := 1) hx hb dX3_isAhead_74 (by decide) ?_
        refine lv_goto (tgt := 79) hx hb dX3_isAhead_75 (by decide) ?_
        exact bz_zret C h hlocks hr (by decide) hF dX3_isAhead_79
  · have hF := it_f hF c11
    refine lv_iload hx hb dX3_isAhead_37 (lv_at hl 1 rfl) ?_
    refine lv_iload hx hb dX3_isAhead_39 (lv_at hl 0 rfl) ?_
    refine lv_icmp_le (tgt := 48) hx hb dX3_isAhead_41 (by decide) (fun c15 => ?_) (fun c15 => ?_)
    · have hF := it_t hF c15
      refine lv_iconst (v := 0) hx hb dX3_isAhead_48 (by decide) ?_
      exact bz_zret C h hlocks hr (by decide) hF dX3_isAhead_49
    · have hF := it_f hF c15
      refine lv_iconst (v := 1) hx hb dX3_isAhead_44 (by decide) ?_
      refine lv_goto (tgt := 49) hx hb dX3_isAhead_45 (by decide) ?_
      exact bz_zret C h hlocks hr (by decide) hF dX3_isAhead_49
set_option maxHeartbeats 4000000 in
set_option maxRecDepth 100000 in
theorem L_X3_takenCurrent_L4 {p : Program} {l : Launch} {e : Env} {s : State} {m : MethodId} {args : Array Value} {below : List Frame} {meth : Method} {c : Code} {G : bz_G} (C : bz_C p s m c args cX3_takenCurrent 4 RX3 wz_X3_takenCurrent G) (hlocks : meth.locks = false) (hr : meth.sig.returnType = (some .int)) {a0 : Nat} (ka0 : bz_k G a0 = (4, 0)) {k : Int32 → bz_W → Option (Int32 × bz_W)} {res : Int32 × bz_W} : ∀ (n : Nat) (v1 : Int32) (v2 : Int32) (σ : bz_W) (H : Heap) (locs : List Loc) (ls : Array Slot), f_X3_takenCurrent_L4 a0 k n v1 v2 σ = some res → bz_H G s σ H locs → lv_has ls 4 [(0, .ref a0), (1, .int v1), (2, .int v2)] → (∀ (w1 : Int32) (σ : bz_W) (H : Heap) (locs : List Loc) (ls : Array Slot), k w1 σ = some res → bz_H G s σ H locs → lv_has ls 4 [(1, .int w1)] → W p l e ({ frames := 2, cells := 0, slots := 0, locals := 42 } : Room) s m args below meth c H locs 0 0 (MQ below (bz_Qc G (some (.int res.1)) res.2) args s 0 0 (bz_A G)) (F0 m 47 ls [])) → W p l e ({ frames := 2, cells := 0, slots := 0, locals := 42 } : Room) s m args below meth c H locs 0 0 (MQ below (bz_Qc G (some (.int res.1)) res.2) args s 0 0 (bz_A G)) (F0 m 4 ls []) := by
  have hx := C.1
  have hb := C.2.1
  have hts := C.2.2.2.2.1
  intro n
  induction n with
  | zero =>
    intro v1 v2 σ H locs ls hF
    exact absurd hF (by simp [f_X3_takenCurrent_L4])
  | succ n ih =>
    intro v1 v2 σ H locs ls hF h hl hk
    rw [f_X3_takenCurrent_L4] at hF
    refine lv_iload_n hx hb dX3_takenCurrent_4 rfl (lv_at hl 2 rfl) ?_
    refine lv_aload_n hx hb dX3_takenCurrent_5 rfl (lv_at hl 0 rfl) ?_
    refine gf_3_3 C h ka0 iz_X3 (List.mem_cons_of_mem _ wd_4_20) dX3_takenCurrent_6 ?_
    refine lv_icmp_ge (tgt := 47) hx hb dX3_takenCurrent_9 (by decide) (fun c1 => ?_) (fun c1 => ?_)
    · have hF := it_t hF c1
      exact hk _ _ H locs ls hF h (lv_sub hl [1] rfl)
    · have hF := it_f hF c1
      refine lv_aload_n hx hb dX3_takenCurrent_12 rfl (lv_at hl 0 rfl) ?_
      refine gf_3_0 C h ka0 iz_X3 (List.mem_cons_of_mem _ wd_2_9) dX3_takenCurrent_13 (fun k2 => ?_)
      refine lv_iload_n hx hb dX3_takenCurrent_16 rfl (lv_at hl 2 rfl) ?_
      obtain ⟨c3, hF⟩ := ck_u hF
      refine bz_aaldm C h k2 c3 (kx := v2.toNatClampNeg) rfl dX3_takenCurrent_17 (fun k4 => ?_)
      refine lv_astore_n (lv' := [(3, .ref (σ.2 (σ.2 a0 0) v2.toNatClampNeg)), (0, .ref a0), (1, .int v1), (2, .int v2)]) hx hb dX3_takenCurrent_18 rfl hl (by decide) rfl (fun ls hl => ?_)
      refine lv_iload_n hx hb dX3_takenCurrent_19 rfl (lv_at hl 2 rfl) ?_
      refine lv_aload_n hx hb dX3_takenCurrent_20 rfl (lv_at hl 0 rfl) ?_
      refine gf_2_8 C h k4 iz_X2 (List.mem_cons_of_mem _ wd_16_14) dX3_takenCurrent_21 ?_
      refine lv_iconst (v := 2) hx hb dX3_takenCurrent_24 (by decide) ?_
      obtain ⟨j7, ej7, hF⟩ := lt_j hF
      have hj7 : ∀ (y5 : Int32) (σ6 : bz_W) (H : Heap) (locs : List Loc) (ls : Array Slot), j7 y5 σ6 = some res → bz_H G s σ6 H locs → lv_has ls 4 [(0, .ref a0), (2, .int v2)] → W p l e ({ frames := 2, cells := 0, slots := 0, locals := 42 } : Room) s m args below meth c H locs 0 0 (MQ below (bz_Qc G (some (.int res.1)) res.2) args s 0 0 (bz_A G)) (F0 m 39 ls [.int y5, .int v1]) := by
          intro y5 σ6 H locs ls hF h hl
          subst ej7
          refine lv_iadd hx hb dX3_takenCurrent_39 ?_
          refine lv_topi (fun x8 ex8 => ?_)
          have hF := lt_u hF x8 ex8
          refine lv_istore_n (lv' := [(1, .int x8), (0, .ref a0), (2, .int v2)]) hx hb dX3_takenCurrent_40 rfl hl (by decide) rfl (fun ls hl => ?_)
          obtain ⟨x9, ex9⟩ : ∃ y : Int32, y = v2 + 1 := ⟨_, rfl⟩
          have hF := lt_u hF x9 ex9
          refine lv_iinc (v := x9) (lv' := [(2, .int x9), (1, .int x8), (0, .ref a0)]) hx hb dX3_takenCurrent_41 hl (k := 2) rfl (by rw [ex9]; rfl) (by decide) rfl (fun ls hl => ?_)
          refine lv_goto (tgt := 4) hx hb dX3_takenCurrent_44 (by decide) ?_
          exact ih _ _ _ H locs ls hF h (lv_sub hl [2, 1, 0] rfl) hk
      refine lv_icmp_ne (tgt := 35) hx hb dX3_takenCurrent_25 (by decide) (fun c10 => ?_) (fun c10 => ?_)
      · have hF := it_f hF c10
        refine lv_aload_n hx hb dX3_takenCurrent_35 rfl (lv_at hl 0 rfl) ?_
        obtain ⟨r11, σ12, qr11, hF⟩ := bd_u hF
        refine bz_callV (rest := [.int v1]) (st1 := [.int r11, .int v1]) C h (As := []) (o := some (.int r11)) (τ := σ12) (c_X2_draw (l := l) k4 (res := (r11, σ12)) qr11) k4 (by decide) (ci := 2) rfl (cwV 0 hts (bz_gV wd_17_5 wd_17_6 wd_17_7 wd_2_11 wd_17_8) rfl rfl rfl (by decide +kernel) ⟨Nat.le_of_ble_eq_true rfl, Nat.le_of_ble_eq_true rfl⟩) rfl hl.1 rfl (Nat.le_of_ble_eq_true rfl) ⟨Nat.le_of_ble_eq_true rfl, Nat.le_of_ble_eq_true rfl⟩ dX3_takenCurrent_36 rfl (fun H locs h => ?_)
        exact hj7 _ _ H locs ls hF h (lv_sub hl [1, 3] rfl)
      · have hF := it_t hF c10
        refine lv_aload_n hx hb dX3_takenCurrent_28 rfl (lv_at hl 0 rfl) ?_
        obtain ⟨r13, σ14, qr13, hF⟩ := bd_u hF
        refine bz_callV (rest := [.int v1]) (st1 := [.int r13, .int v1]) C h (As := []) (o := some (.int r13)) (τ := σ14) (c_X2_peak (l := l) k4 (res := (r13, σ14)) qr13) k4 (by decide) (ci := 2) rfl (cwV 0 hts (bz_gV wd_19_1 wd_17_10 wd_17_11 wd_2_11 wd_17_12) rfl rfl rfl (by decide +kernel) ⟨Nat.le_of_ble_eq_true rfl, Nat.le_of_ble_eq_true rfl⟩) rfl hl.1 rfl (Nat.le_of_ble_eq_true rfl) ⟨Nat.le_of_ble_eq_true rfl, Nat.le_of_ble_eq_true rfl⟩ dX3_takenCurrent_29 rfl (fun H locs h => ?_)
        refine lv_goto (tgt := 39) hx hb dX3_takenCurrent_32 (by decide) ?_
        exact hj7 _ _ H locs ls hF h (lv_sub hl [1, 3] rfl)
set_option maxHeartbeats 4000000 in
set_option maxRecDepth 100000 in
theorem c_X3_takenCurrent {l : Launch} {G : bz_G} {σ : bz_W} {a0 : Nat} (ka0 : bz_k G a0 = (4, 0)) {res : Int32 × bz_W} (hF : f_X3_takenCurrent σ a0 = some res) : bz_M l yX3_takenCurrent wz_X3_takenCurrent 2 42 G σ [.ref a0] (some (.int res.1)) res.2 := by
  refine bz_mk (cc := cX3_takenCurrent) (maxL := 4) (ret := (some .int)) (own := RX3) (by decide) rfl rfl (Nat.le_of_ble_eq_true rfl) ?_
  intro p e s m args below meth c ls C hlocks hr h hl
  have hx := C.1
  have hb := C.2.1
  have hts := C.2.2.2.2.1
  have hl : lv_has ls 4 [(0, .ref a0)] := hl
  obtain ⟨H, eH⟩ : ∃ y, y = s.heap := ⟨_, rfl⟩
  obtain ⟨locs, el⟩ : ∃ y : List Loc, y = [] := ⟨_, rfl⟩
  rw [← el, ← eH] at h ⊢
  unfold f_X3_takenCurrent at hF
  refine lv_iconst (v := 0) hx hb dX3_takenCurrent_0 (by decide) ?_
  refine lv_istore_n (lv' := [(1, .int 0), (0, .ref a0)]) hx hb dX3_takenCurrent_1 rfl hl (by decide) rfl (fun ls hl => ?_)
  refine lv_iconst (v := 0) hx hb dX3_takenCurrent_2 (by decide) ?_
  refine lv_istore_n (lv' := [(2, .int 0), (1, .int 0), (0, .ref a0)]) hx hb dX3_takenCurrent_3 rfl hl (by decide) rfl (fun ls hl => ?_)
  refine L_X3_takenCurrent_L4 C hlocks hr ka0 _ _ _ _ H locs ls hF h (lv_sub hl [2, 1, 0] rfl) ?_
  intro x15 σ16 H locs ls hF h hl
  refine lv_iload_n hx hb dX3_takenCurrent_47 rfl (lv_at hl 0 rfl) ?_
  exact bz_iret C h hlocks hr hF dX3_takenCurrent_48
set_option maxHeartbeats 4000000 in
set_option maxRecDepth 100000 in
theorem c_X3_reasonAgainst {l : Launch} {G : bz_G} {σ : bz_W} {a0 : Nat} {a1 : Nat} (ka0 : bz_k G a0 = (4, 0)) (ka1 : bz_k G a1 = (3, 0)) {res : Int32 × bz_W} (hF : f_X3_reasonAgainst σ a0 a1 = some res) : bz_M l yX3_reasonAgainst wz_X3_reasonAgainst 3 65 G σ [.ref a0, .ref a1] (some (.int res.1)) res.2 := by
  refine bz_mk (cc := cX3_reasonAgainst) (maxL := 2) (ret := (some .int)) (own := RX3) (by decide) rfl rfl (Nat.le_of_ble_eq_true rfl) ?_
  intro p e s m args below meth c ls C hlocks hr h hl
  have hx := C.1
  have hb := C.2.1
  have hts := C.2.2.2.2.1
  have hl : lv_has ls 2 [(0, .ref a0), (1, .ref a1)] := hl
  obtain ⟨H, eH⟩ : ∃ y, y = s.heap := ⟨_, rfl⟩
  obtain ⟨locs, el⟩ : ∃ y : List Loc, y = [] := ⟨_, rfl⟩
  rw [← el, ← eH] at h ⊢
  unfold f_X3_reasonAgainst at hF
  refine lv_aload_n hx hb dX3_reasonAgainst_0 rfl (lv_at hl 1 rfl) ?_
  refine gf_2_10 C h ka1 iz_X2 (List.mem_cons_of_mem _ wd_18_19) dX3_reasonAgainst_1 ?_
  refine lv_if_eq (tgt := 9) hx hb dX3_reasonAgainst_4 (by decide) (fun c1 => ?_) (fun c1 => ?_)
  · have hF := it_t hF c1
    refine lv_aload_n hx hb dX3_reasonAgainst_9 rfl (lv_at hl 1 rfl) ?_
    obtain ⟨r2, σ3, qr2, hF⟩ := bd_u hF
    refine bz_callV (rest := []) (st1 := [.int r2]) C h (As := []) (o := some (.int r2)) (τ := σ3) (c_X2_credit (l := l) ka1 (res := (r2, σ3)) qr2) ka1 (by decide) (ci := 2) rfl (cwV 0 hts (bz_gV wd_18_21 wd_18_22 wd_18_23 wd_2_11 wd_19_0) rfl rfl rfl (by decide +kernel) ⟨Nat.le_of_ble_eq_true rfl, Nat.le_of_ble_eq_true rfl⟩) rfl hl.1 rfl (by decide) ⟨Nat.le_of_ble_eq_true rfl, Nat.le_of_ble_eq_true rfl⟩ dX3_reasonAgainst_10 rfl (fun H locs h => ?_)
    refine lv_aload_n hx hb dX3_reasonAgainst_13 rfl (lv_at hl 1 rfl) ?_
    refine gf_2_6 C h ka1 iz_X2 (List.mem_cons_of_mem _ wd_18_20) dX3_reasonAgainst_14 ?_
    refine lv_icmp_ge (tgt := 22) hx hb dX3_reasonAgainst_17 (by decide) (fun c4 => ?_) (fun c4 => ?_)
    · have hF := it_t hF c4
      refine lv_aload_n hx hb dX3_reasonAgainst_22 rfl (lv_at hl 1 rfl) ?_
      obtain ⟨r5, σ6, qr5, hF⟩ := bd_u hF
      refine bz_callV (rest := []) (st1 := [.int r5]) C h (As := []) (o := some (.int r5)) (τ := σ6) (c_X2_peak (l := l) ka1 (res := (r5, σ6)) qr5) ka1 (by decide) (ci := 2) rfl (cwV 0 hts (bz_gV wd_19_1 wd_17_10 wd_17_11 wd_2_11 wd_17_12) rfl rfl rfl (by decide +kernel) ⟨Nat.le_of_ble_eq_true rfl, Nat.le_of_ble_eq_true rfl⟩) rfl hl.1 rfl (by decide) ⟨Nat.le_of_ble_eq_true rfl, Nat.le_of_ble_eq_true rfl⟩ dX3_reasonAgainst_23 rfl (fun H locs h => ?_)
      refine lv_aload_n hx hb dX3_reasonAgainst_26 rfl (lv_at hl 0 rfl) ?_
      obtain ⟨r7, σ8, qr7, hF⟩ := bd_u hF
      refine bz_callV (rest := [.int r5]) (st1 := [.int r7, .int r5]) C h (As := []) (o := some (.int r7)) (τ := σ8) (c_X3_takenCurrent (l := l) ka0 (res := (r7, σ8)) qr7) ka0 (by decide) (ci := 3) rfl (cwV 0 hts (bz_gV wd_19_2 wd_19_3 wd_19_4 wd_1_11 wd_19_5) rfl rfl rfl (by decide +kernel) ⟨Nat.le_of_ble_eq_true rfl, Nat.le_of_ble_eq_true rfl⟩) rfl hl.1 rfl (Nat.le_of_ble_eq_true rfl) ⟨Nat.le_of_ble_eq_true rfl, Nat.le_of_ble_eq_true rfl⟩ dX3_reasonAgainst_27 rfl (fun H locs h => ?_)
      refine lv_iadd hx hb dX3_reasonAgainst_30 ?_
      refine lv_aload_n hx hb dX3_reasonAgainst_31 rfl (lv_at hl 0 rfl) ?_
      refine gf_3_5 C h ka0 iz_X3 (List.mem_cons_of_mem _ wd_2_18) dX3_reasonAgainst_32 ?_
      refine lv_icmp_le (tgt := 42) hx hb dX3_reasonAgainst_35 (by decide) (fun c9 => ?_) (fun c9 => ?_)
      · have hF := it_t hF c9
        refine lv_iconst (v := 0) hx hb dX3_reasonAgainst_42 (by decide) ?_
        exact bz_iret C h hlocks hr hF dX3_reasonAgainst_43
      · have hF := it_f hF c9
        refine lv_iconst (v := 3) hx hb dX3_reasonAgainst_38 (by decide) ?_
        refine lv_goto (tgt := 43) hx hb dX3_reasonAgainst_39 (by decide) ?_
        exact bz_iret C h hlocks hr hF dX3_reasonAgainst_43
    · have hF := it_f hF c4
      refine lv_iconst (v := 2) hx hb dX3_reasonAgainst_20 (by decide) ?_
      exact bz_iret C h hlocks hr hF dX3_reasonAgainst_21
  · have hF := it_f hF c1
    refine lv_iconst (v := 4) hx hb dX3_reasonAgainst_7 (by decide) ?_
    exact bz_iret C h hlocks hr hF dX3_reasonAgainst_8
set_option maxHeartbeats 4000000 in
set_option maxRecDepth 100000 in
theorem L_X3_motorsInMode_L4 {p : Program} {l : Launch} {e : Env} {s : State} {m : MethodId} {args : Array Value} {below : List Frame} {meth : Method} {c : Code} {G : bz_G} (C : bz_C p s m c args cX3_motorsInMode 4 RX3 wz_X3_motorsInMode G) (hlocks : meth.locks = false) (hr : meth.sig.returnType = (some .int)) {a0 : Nat} {a1 : Int32} (ka0 : bz_k G a0 = (4, 0)) {k : Int32 → bz_W → Option (Int32 × bz_W)} {res : Int32 × bz_W} : ∀ (n : Nat) (v2 : Int32) (v3 : Int32) (σ : bz_W) (H : Heap) (locs : List Loc) (ls : Array Slot), f_X3_motorsInMode_L4 a0 a1 k n v2 v3 σ = some res → bz_H G s σ H locs → lv_has ls 4 [(0, .ref a0), (1, .int a1), (2, .int v2), (3, .int v3)] → (∀ (w2 : Int32) (σ : bz_W) (H : Heap) (locs : List Loc) (ls : Array Slot), k w2 σ = some res → bz_H G s σ H locs → lv_has ls 4 [(2, .int w2)] → W p l e ({ frames := 0, cells := 0, slots := 0, locals := 0 } : Room) s m args below meth c H locs 0 0 (MQ below (bz_Qc G (some (.int res.1)) res.2) args s 0 0 (bz_A G)) (F0 m 34 ls [])) → W p l e ({ frames := 0, cells := 0, slots := 0, locals := 0 } : Room) s m args below meth c H locs 0 0 (MQ below (bz_Qc G (some (.int res.1)) res.2) args s 0 0 (bz_A G)) (F0 m 4 ls []) := by
  have hx := C.1
  have hb := C.2.1
  have hts := C.2.2.2.2.1
  intro n
  induction n with
  | zero =>
    intro v2 v3 σ H locs ls hF
    exact absurd hF (by simp [f_X3_motorsInMode_L4])
  | succ n ih =>
    intro v2 v3 σ H locs ls hF h hl hk
    rw [f_X3_motorsInMode_L4] at hF
    refine lv_iload_n hx hb dX3_motorsInMode_4 rfl (lv_at hl 3 rfl) ?_
    refine lv_aload_n hx hb dX3_motorsInMode_5 rfl (lv_at hl 0 rfl) ?_
    refine gf_3_3 C h ka0 iz_X3 (List.mem_cons_of_mem _ wd_4_20) dX3_motorsInMode_6 ?_
    refine lv_icmp_ge (tgt := 34) hx hb dX3_motorsInMode_9 (by decide) (fun c1 => ?_) (fun c1 => ?_)
    · have hF := it_t hF c1
      exact hk _ _ H locs ls hF h (lv_sub hl [2] rfl)
    · have hF := it_f hF c1
      refine lv_aload_n hx hb dX3_motorsInMode_12 rfl (lv_at hl 0 rfl) ?_
      refine gf_3_0 C h ka0 iz_X3 (List.mem_cons_of_mem _ wd_2_9) dX3_motorsInMode_13 (fun k2 => ?_)
      refine lv_iload_n hx hb dX3_motorsInMode_16 rfl (lv_at hl 3 rfl) ?_
      obtain ⟨c3, hF⟩ := ck_u hF
      refine bz_aaldm C h k2 c3 (kx := v3.toNatClampNeg) rfl dX3_motorsInMode_17 (fun k4 => ?_)
      refine gf_2_8 C h k4 iz_X2 (List.mem_cons_of_mem _ wd_16_14) dX3_motorsInMode_18 ?_
      refine lv_iload_n hx hb dX3_motorsInMode_21 rfl (lv_at hl 1 rfl) ?_
      obtain ⟨j7, ej7, hF⟩ := lt_j hF
      have hj7 : ∀ (x5 : Int32) (σ6 : bz_W) (H : Heap) (locs : List Loc) (ls : Array Slot), j7 x5 σ6 = some res → bz_H G s σ6 H locs → lv_has ls 4 [(0, .ref a0), (1, .int a1), (2, .int x5), (3, .int v3)] → W p l e ({ frames := 0, cells := 0, slots := 0, locals := 0 } : Room) s m args below meth c H locs 0 0 (MQ below (bz_Qc G (some (.int res.1)) res.2) args s 0 0 (bz_A G)) (F0 m 28 ls []) := by
          intro x5 σ6 H locs ls hF h hl
          subst ej7
          obtain ⟨x8, ex8⟩ : ∃ y : Int32, y = v3 + 1 := ⟨_, rfl⟩
          have hF := lt_u hF x8 ex8
          refine lv_iinc (v := x8) (lv' := [(3, .int x8), (0, .ref a0), (1, .int a1), (2, .int x5)]) hx hb dX3_motorsInMode_28 hl (k := 3) rfl (by rw [ex8]; rfl) (by decide) rfl (fun ls hl => ?_)
          refine lv_goto (tgt := 4) hx hb dX3_motorsInMode_31 (by decide) ?_
          exact ih _ _ _ H locs ls hF h (lv_sub hl [1, 2, 3, 0] rfl) hk
      refine lv_icmp_ne (tgt := 28) hx hb dX3_motorsInMode_22 (by decide) (fun c9 => ?_) (fun c9 => ?_)
      · have hF := it_f hF c9
        exact hj7 _ _ H locs ls hF h (lv_sub hl [0, 1, 2, 3] rfl)
      · have hF := it_t hF c9
        obtain ⟨x10, ex10⟩ : ∃ y : Int32, y = v2 + 1 := ⟨_, rfl⟩
        have hF := lt_u hF x10 ex10
        refine lv_iinc (v := x10) (lv' := [(2, .int x10), (0, .ref a0), (1, .int a1), (3, .int v3)]) hx hb dX3_motorsInMode_25 hl (k := 2) rfl (by rw [ex10]; rfl) (by decide) rfl (fun ls hl => ?_)
        exact hj7 _ _ H locs ls hF h (lv_sub hl [1, 2, 0, 3] rfl)
set_option maxHeartbeats 4000000 in
set_option maxRecDepth 100000 in
theorem c_X3_motorsInMode {l : Launch} {G : bz_G} {σ : bz_W} {a0 : Nat} {x1_ : Int32} (ka0 : bz_k G a0 = (4, 0)) {res : Int32 × bz_W} (hF : f_X3_motorsInMode σ a0 x1_ = some res) : bz_M l yX3_motorsInMode wz_X3_motorsInMode 0 0 G σ [.ref a0, .int x1_] (some (.int res.1)) res.2 := by
  refine bz_mk (cc := cX3_motorsInMode) (maxL := 4) (ret := (some .int)) (own := RX3) (by decide) rfl rfl (Nat.le_of_ble_eq_true rfl) ?_
  intro p e s m args below meth c ls C hlocks hr h hl
  have hx := C.1
  have hb := C.2.1
  have hts := C.2.2.2.2.1
  have hl : lv_has ls 4 [(0, .ref a0), (1, .int x1_)] := hl
  obtain ⟨H, eH⟩ : ∃ y, y = s.heap := ⟨_, rfl⟩
  obtain ⟨locs, el⟩ : ∃ y : List Loc, y = [] := ⟨_, rfl⟩
  rw [← el, ← eH] at h ⊢
  unfold f_X3_motorsInMode at hF
  refine lv_iconst (v := 0) hx hb dX3_motorsInMode_0 (by decide) ?_
  refine lv_istore_n (lv' := [(2, .int 0), (0, .ref a0), (1, .int x1_)]) hx hb dX3_motorsInMode_1 rfl hl (by decide) rfl (fun ls hl => ?_)
  refine lv_iconst (v := 0) hx hb dX3_motorsInMode_2 (by decide) ?_
  refine lv_istore_n (lv' := [(3, .int 0), (2, .int 0), (0, .ref a0), (1, .int x1_)]) hx hb dX3_motorsInMode_3 rfl hl (by decide) rfl (fun ls hl => ?_)
  refine L_X3_motorsInMode_L4 C hlocks hr ka0 _ _ _ _ H locs ls hF h (lv_sub hl [2, 3, 1, 0] rfl) ?_
  intro x11 σ12 H locs ls hF h hl
  refine lv_iload_n hx hb dX3_motorsInMode_34 rfl (lv_at hl 0 rfl) ?_
  exact bz_iret C h hlocks hr hF dX3_motorsInMode_35
set_option maxHeartbeats 4000000 in
set_option maxRecDepth 100000 in
theorem L_X3_sumOfAccount_L4 {p : Program} {l : Launch} {e : Env} {s : State} {m : MethodId} {args : Array Value} {below : List Frame} {meth : Method} {c : Code} {G : bz_G} (C : bz_C p s m c args cX3_sumOfAccount 4 RX3 wz_X3_sumOfAccount G) (hlocks : meth.locks = false) (hr : meth.sig.returnType = (some .int)) {a0 : Nat} {a1 : Int32} (ka0 : bz_k G a0 = (4, 0)) {k : Int32 → bz_W → Option (Int32 × bz_W)} {res : Int32 × bz_W} : ∀ (n : Nat) (v2 : Int32) (v3 : Int32) (σ : bz_W) (H : Heap) (locs : List Loc) (ls : Array Slot), f_X3_sumOfAccount_L4 a0 a1 k n v2 v3 σ = some res → bz_H G s σ H locs → lv_has ls 4 [(0, .ref a0), (1, .int a1), (2, .int v2), (3, .int v3)] → (∀ (w2 : Int32) (σ : bz_W) (H : Heap) (locs : List Loc) (ls : Array Slot), k w2 σ = some res → bz_H G s σ H locs → lv_has ls 4 [(2, .int w2)] → W p l e ({ frames := 0, cells := 0, slots := 0, locals := 0 } : Room) s m args below meth c H locs 0 0 (MQ below (bz_Qc G (some (.int res.1)) res.2) args s 0 0 (bz_A G)) (F0 m 32 ls [])) → W p l e ({ frames := 0, cells := 0, slots := 0, locals := 0 } : Room) s m args below meth c H locs 0 0 (MQ below (bz_Qc G (some (.int res.1)) res.2) args s 0 0 (bz_A G)) (F0 m 4 ls []) := by
  have hx := C.1
  have hb := C.2.1
  have hts := C.2.2.2.2.1
  intro n
  induction n with
  | zero =>
    intro v2 v3 σ H locs ls hF
    exact absurd hF (by simp [f_X3_sumOfAccount_L4])
  | succ n ih =>
    intro v2 v3 σ H locs ls hF h hl hk
    rw [f_X3_sumOfAccount_L4] at hF
    refine lv_iload_n hx hb dX3_sumOfAccount_4 rfl (lv_at hl 3 rfl) ?_
    refine lv_aload_n hx hb dX3_sumOfAccount_5 rfl (lv_at hl 0 rfl) ?_
    refine gf_3_3 C h ka0 iz_X3 (List.mem_cons_of_mem _ wd_4_20) dX3_sumOfAccount_6 ?_
    refine lv_icmp_ge (tgt := 32) hx hb dX3_sumOfAccount_9 (by decide) (fun c1 => ?_) (fun c1 => ?_)
    · have hF := it_t hF c1
      exact hk _ _ H locs ls hF h (lv_sub hl [2] rfl)
    · have hF := it_f hF c1
      refine lv_iload_n hx hb dX3_sumOfAccount_12 rfl (lv_at hl 2 rfl) ?_
      refine lv_aload_n hx hb dX3_sumOfAccount_13 rfl (lv_at hl 0 rfl) ?_
      refine gf_3_0 C h ka0 iz_X3 (List.mem_cons_of_mem _ wd_2_9) dX3_sumOfAccount_14 (fun k2 => ?_)
      refine lv_iload_n hx hb dX3_sumOfAccount_17 rfl (lv_at hl 3 rfl) ?_
      obtain ⟨c3, hF⟩ := ck_u hF
      refine bz_aaldm C h k2 c3 (kx := v3.toNatClampNeg) rfl dX3_sumOfAccount_18 (fun k4 => ?_)
      refine gf_2_1 C h k4 iz_X2 (List.mem_cons_of_mem _ wd_16_19) dX3_sumOfAccount_19 (fun k5 => ?_)
      refine lv_iload_n hx hb dX3_sumOfAccount_22 rfl (lv_at hl 1 rfl) ?_
      obtain ⟨c6, hF⟩ := ck_u hF
      refine bz_iald C h k5 c6 (kx := a1.toNatClampNeg) rfl dX3_sumOfAccount_23 ?_
      refine lv_iadd hx hb dX3_sumOfAccount_24 ?_
      refine lv_topi (fun x7 ex7 => ?_)
      have hF := lt_u hF x7 ex7
      refine lv_istore_n (lv' := [(2, .int x7), (0, .ref a0), (1, .int a1), (3, .int v3)]) hx hb dX3_sumOfAccount_25 rfl hl (by decide) rfl (fun ls hl => ?_)
      obtain ⟨x8, ex8⟩ : ∃ y : Int32, y = v3 + 1 := ⟨_, rfl⟩
      have hF := lt_u hF x8 ex8
      refine lv_iinc (v := x8) (lv' := [(3, .int x8), (2, .int x7), (0, .ref a0), (1, .int a1)]) hx hb dX3_sumOfAccount_26 hl (k := 3) rfl (by rw [ex8]; rfl) (by decide) rfl (fun ls hl => ?_)
      refine lv_goto (tgt := 4) hx hb dX3_sumOfAccount_29 (by decide) ?_
      exact ih _ _ _ H locs ls hF h (lv_sub hl [2, 3, 1, 0] rfl) hk
set_option maxHeartbeats 4000000 in
set_option maxRecDepth 100000 in
theorem c_X3_sumOfAccount {l : Launch} {G : bz_G} {σ : bz_W} {a0 : Nat} {x1_ : Int32} (ka0 : bz_k G a0 = (4, 0)) {res : Int32 × bz_W} (hF : f_X3_sumOfAccount σ a0 x1_ = some res) : bz_M l yX3_sumOfAccount wz_X3_sumOfAccount 0 0 G σ [.ref a0, .int x1_] (some (.int res.1)) res.2 := by
  refine bz_mk (cc := cX3_sumOfAccount) (maxL := 4) (ret := (some .int)) (own := RX3) (by decide) rfl rfl (Nat.le_of_ble_eq_true rfl) ?_
  intro p e s m args below meth c ls C hlocks hr h hl
  have hx := C.1
  have hb := C.2.1
  have hts := C.2.2.2.2.1
  have hl : lv_has ls 4 [(0, .ref a0), (1, .int x1_)] := hl
  obtain ⟨H, eH⟩ : ∃ y, y = s.heap := ⟨_, rfl⟩
  obtain ⟨locs, el⟩ : ∃ y : List Loc, y = [] := ⟨_, rfl⟩
  rw [← el, ← eH] at h ⊢
  unfold f_X3_sumOfAccount at hF
  refine lv_iconst (v := 0) hx hb dX3_sumOfAccount_0 (by decide) ?_
  refine lv_istore_n (lv' := [(2, .int 0), (0, .ref a0), (1, .int x1_)]) hx hb dX3_sumOfAccount_1 rfl hl (by decide) rfl (fun ls hl => ?_)
  refine lv_iconst (v := 0) hx hb dX3_sumOfAccount_2 (by decide) ?_
  refine lv_istore_n (lv' := [(3, .int 0), (2, .int 0), (0, .ref a0), (1, .int x1_)]) hx hb dX3_sumOfAccount_3 rfl hl (by decide) rfl (fun ls hl => ?_)
  refine L_X3_sumOfAccount_L4 C hlocks hr ka0 _ _ _ _ H locs ls hF h (lv_sub hl [2, 3, 1, 0] rfl) ?_
  intro x9 σ10 H locs ls hF h hl
  refine lv_iload_n hx hb dX3_sumOfAccount_32 rfl (lv_at hl 0 rfl) ?_
  exact bz_iret C h hlocks hr hF dX3_sumOfAccount_33
set_option maxHeartbeats 4000000 in
set_option maxRecDepth 100000 in
theorem L_X3_sumOfHeat_L4 {p : Program} {l : Launch} {e : Env} {s : State} {m : MethodId} {args : Array Value} {below : List Frame} {meth : Method} {c : Code} {G : bz_G} (C : bz_C p s m c args cX3_sumOfHeat 3 RX3 wz_X3_sumOfHeat G) (hlocks : meth.locks = false) (hr : meth.sig.returnType = (some .int)) {a0 : Nat} (ka0 : bz_k G a0 = (4, 0)) {k : Int32 → bz_W → Option (Int32 × bz_W)} {res : Int32 × bz_W} : ∀ (n : Nat) (v1 : Int32) (v2 : Int32) (σ : bz_W) (H : Heap) (locs : List Loc) (ls : Array Slot), f_X3_sumOfHeat_L4 a0 k n v1 v2 σ = some res → bz_H G s σ H locs → lv_has ls 3 [(0, .ref a0), (1, .int v1), (2, .int v2)] → (∀ (w1 : Int32) (σ : bz_W) (H : Heap) (locs : List Loc) (ls : Array Slot), k w1 σ = some res → bz_H G s σ H locs → lv_has ls 3 [(1, .int w1)] → W p l e ({ frames := 0, cells := 0, slots := 0, locals := 0 } : Room) s m args below meth c H locs 0 0 (MQ below (bz_Qc G (some (.int res.1)) res.2) args s 0 0 (bz_A G)) (F0 m 30 ls [])) → W p l e ({ frames := 0, cells := 0, slots := 0, locals := 0 } : Room) s m args below meth c H locs 0 0 (MQ below (bz_Qc G (some (.int res.1)) res.2) args s 0 0 (bz_A G)) (F0 m 4 ls []) := by
  have hx := C.1
  have hb := C.2.1
  have hts := C.2.2.2.2.1
  intro n
  induction n with
  | zero =>
    intro v1 v2 σ H locs ls hF
    exact absurd hF (by simp [f_X3_sumOfHeat_L4])
  | succ n ih =>
    intro v1 v2 σ H locs ls hF h hl hk
    rw [f_X3_sumOfHeat_L4] at hF
    refine lv_iload_n hx hb dX3_sumOfHeat_4 rfl (lv_at hl 2 rfl) ?_
    refine lv_aload_n hx hb dX3_sumOfHeat_5 rfl (lv_at hl 0 rfl) ?_
    refine gf_3_3 C h ka0 iz_X3 (List.mem_cons_of_mem _ wd_4_20) dX3_sumOfHeat_6 ?_
    refine lv_icmp_ge (tgt := 30) hx hb dX3_sumOfHeat_9 (by decide) (fun c1 => ?_) (fun c1 => ?_)
    · have hF := it_t hF c1
      exact hk _ _ H locs ls hF h (lv_sub hl [1] rfl)
    · have hF := it_f hF c1
      refine lv_iload_n hx hb dX3_sumOfHeat_12 rfl (lv_at hl 1 rfl) ?_
      refine lv_aload_n hx hb dX3_sumOfHeat_13 rfl (lv_at hl 0 rfl) ?_
      refine gf_3_0 C h ka0 iz_X3 (List.mem_cons_of_mem _ wd_2_9) dX3_sumOfHeat_14 (fun k2 => ?_)
      refine lv_iload_n hx hb dX3_sumOfHeat_17 rfl (lv_at hl 2 rfl) ?_
      obtain ⟨c3, hF⟩ := ck_u hF
      refine bz_aaldm C h k2 c3 (kx := v2.toNatClampNeg) rfl dX3_sumOfHeat_18 (fun k4 => ?_)
      refine gf_2_9 C h k4 iz_X2 (List.mem_cons_of_mem _ wd_17_0) dX3_sumOfHeat_19 ?_
      refine lv_iadd hx hb dX3_sumOfHeat_22 ?_
      refine lv_topi (fun x5 ex5 => ?_)
      have hF := lt_u hF x5 ex5
      refine lv_istore_n (lv' := [(1, .int x5), (0, .ref a0), (2, .int v2)]) hx hb dX3_sumOfHeat_23 rfl hl (by decide) rfl (fun ls hl => ?_)
      obtain ⟨x6, ex6⟩ : ∃ y : Int32, y = v2 + 1 := ⟨_, rfl⟩
      have hF := lt_u hF x6 ex6
      refine lv_iinc (v := x6) (lv' := [(2, .int x6), (1, .int x5), (0, .ref a0)]) hx hb dX3_sumOfHeat_24 hl (k := 2) rfl (by rw [ex6]; rfl) (by decide) rfl (fun ls hl => ?_)
      refine lv_goto (tgt := 4) hx hb dX3_sumOfHeat_27 (by decide) ?_
      exact ih _ _ _ H locs ls hF h (lv_sub hl [2, 1, 0] rfl) hk
set_option maxHeartbeats 4000000 in
set_option maxRecDepth 100000 in
theorem c_X3_sumOfHeat {l : Launch} {G : bz_G} {σ : bz_W} {a0 : Nat} (ka0 : bz_k G a0 = (4, 0)) {res : Int32 × bz_W} (hF : f_X3_sumOfHeat σ a0 = some res) : bz_M l yX3_sumOfHeat wz_X3_sumOfHeat 0 0 G σ [.ref a0] (some (.int res.1)) res.2 := by
  refine bz_mk (cc := cX3_sumOfHeat) (maxL := 3) (ret := (some .int)) (own := RX3) (by decide) rfl rfl (Nat.le_of_ble_eq_true rfl) ?_
  intro p e s m args below meth c ls C hlocks hr h hl
  have hx := C.1
  have hb := C.2.1
  have hts := C.2.2.2.2.1
  have hl : lv_has ls 3 [(0, .ref a0)] := hl
  obtain ⟨H, eH⟩ : ∃ y, y = s.heap := ⟨_, rfl⟩
  obtain ⟨locs, el⟩ : ∃ y : List Loc, y = [] := ⟨_, rfl⟩
  rw [← el, ← eH] at h ⊢
  unfold f_X3_sumOfHeat at hF
  refine lv_iconst (v := 0) hx hb dX3_sumOfHeat_0 (by decide) ?_
  refine lv_istore_n (lv' := [(1, .int 0), (0, .ref a0)]) hx hb dX3_sumOfHeat_1 rfl hl (by decide) rfl (fun ls hl => ?_)
  refine lv_iconst (v := 0) hx hb dX3_sumOfHeat_2 (by decide) ?_
  refine lv_istore_n (lv' := [(2, .int 0), (1, .int 0), (0, .ref a0)]) hx hb dX3_sumOfHeat_3 rfl hl (by decide) rfl (fun ls hl => ?_)
  refine L_X3_sumOfHeat_L4 C hlocks hr ka0 _ _ _ _ H locs ls hF h (lv_sub hl [2, 1, 0] rfl) ?_
  intro x7 σ8 H locs ls hF h hl
  refine lv_iload_n hx hb dX3_sumOfHeat_30 rfl (lv_at hl 0 rfl) ?_
  exact bz_iret C h hlocks hr hF dX3_sumOfHeat_31
set_option maxHeartbeats 4000000 in
set_option maxRecDepth 100000 in
theorem L_X3_sumOfDraws_L4 {p : Program} {l : Launch} {e : Env} {s : State} {m : MethodId} {args : Array Value} {below : List Frame} {meth : Method} {c : Code} {G : bz_G} (C : bz_C p s m c args cX3_sumOfDraws 3 RX3 wz_X3_sumOfDraws G) (hlocks : meth.locks = false) (hr : meth.sig.returnType = (some .int)) {a0 : Nat} (ka0 : bz_k G a0 = (4, 0)) {k : Int32 → bz_W → Option (Int32 × bz_W)} {res : Int32 × bz_W} : ∀ (n : Nat) (v1 : Int32) (v2 : Int32) (σ : bz_W) (H : Heap) (locs : List Loc) (ls : Array Slot), f_X3_sumOfDraws_L4 a0 k n v1 v2 σ = some res → bz_H G s σ H locs → lv_has ls 3 [(0, .ref a0), (1, .int v1), (2, .int v2)] → (∀ (w1 : Int32) (σ : bz_W) (H : Heap) (locs : List Loc) (ls : Array Slot), k w1 σ = some res → bz_H G s σ H locs → lv_has ls 3 [(1, .int w1)] → W p l e ({ frames := 2, cells := 0, slots := 0, locals := 42 } : Room) s m args below meth c H locs 0 0 (MQ below (bz_Qc G (some (.int res.1)) res.2) args s 0 0 (bz_A G)) (F0 m 30 ls [])) → W p l e ({ frames := 2, cells := 0, slots := 0, locals := 42 } : Room) s m args below meth c H locs 0 0 (MQ below (bz_Qc G (some (.int res.1)) res.2) args s 0 0 (bz_A G)) (F0 m 4 ls []) := by
  have hx := C.1
  have hb := C.2.1
  have hts := C.2.2.2.2.1
  intro n
  induction n with
  | zero =>
    intro v1 v2 σ H locs ls hF
    exact absurd hF (by simp [f_X3_sumOfDraws_L4])
  | succ n ih =>
    intro v1 v2 σ H locs ls hF h hl hk
    rw [f_X3_sumOfDraws_L4] at hF
    refine lv_iload_n hx hb dX3_sumOfDraws_4 rfl (lv_at hl 2 rfl) ?_
    refine lv_aload_n hx hb dX3_sumOfDraws_5 rfl (lv_at hl 0 rfl) ?_
    refine gf_3_3 C h ka0 iz_X3 (List.mem_cons_of_mem _ wd_4_20) dX3_sumOfDraws_6 ?_
    refine lv_icmp_ge (tgt := 30) hx hb dX3_sumOfDraws_9 (by decide) (fun c1 => ?_) (fun c1 => ?_)
    · have hF := it_t hF c1
      exact hk _ _ H locs ls hF h (lv_sub hl [1] rfl)
    · have hF := it_f hF c1
      refine lv_iload_n hx hb dX3_sumOfDraws_12 rfl (lv_at hl 1 rfl) ?_
      refine lv_aload_n hx hb dX3_sumOfDraws_13 rfl (lv_at hl 0 rfl) ?_
      refine gf_3_0 C h ka0 iz_X3 (List.mem_cons_of_mem _ wd_2_9) dX3_sumOfDraws_14 (fun k2 => ?_)
      refine lv_iload_n hx hb dX3_sumOfDraws_17 rfl (lv_at hl 2 rfl) ?_
      obtain ⟨c3, hF⟩ := ck_u hF
      refine bz_aaldm C h k2 c3 (kx := v2.toNatClampNeg) rfl dX3_sumOfDraws_18 (fun k4 => ?_)
      obtain ⟨r5, σ6, qr5, hF⟩ := bd_u hF
      refine bz_callV (rest := [.int v1]) (st1 := [.int r5, .int v1]) C h (As := []) (o := some (.int r5)) (τ := σ6) (c_X2_draw (l := l) k4 (res := (r5, σ6)) qr5) k4 (by decide) (ci := 2) rfl (cwV 0 hts (bz_gV wd_17_5 wd_17_6 wd_17_7 wd_2_11 wd_17_8) rfl rfl rfl (by decide +kernel) ⟨Nat.le_of_ble_eq_true rfl, Nat.le_of_ble_eq_true rfl⟩) rfl hl.1 rfl (Nat.le_of_ble_eq_true rfl) ⟨Nat.le_of_ble_eq_true rfl, Nat.le_of_ble_eq_true rfl⟩ dX3_sumOfDraws_19 rfl (fun H locs h => ?_)
      refine lv_iadd hx hb dX3_sumOfDraws_22 ?_
      refine lv_topi (fun x7 ex7 => ?_)
      have hF := lt_u hF x7 ex7
      refine lv_istore_n (lv' := [(1, .int x7), (0, .ref a0), (2, .int v2)]) hx hb dX3_sumOfDraws_23 rfl hl (by decide) rfl (fun ls hl => ?_)
      obtain ⟨x8, ex8⟩ : ∃ y : Int32, y = v2 + 1 := ⟨_, rfl⟩
      have hF := lt_u hF x8 ex8
      refine lv_iinc (v := x8) (lv' := [(2, .int x8), (1, .int x7), (0, .ref a0)]) hx hb dX3_sumOfDraws_24 hl (k := 2) rfl (by rw [ex8]; rfl) (by decide) rfl (fun ls hl => ?_)
      refine lv_goto (tgt := 4) hx hb dX3_sumOfDraws_27 (by decide) ?_
      exact ih _ _ _ H locs ls hF h (lv_sub hl [2, 1, 0] rfl) hk
set_option maxHeartbeats 4000000 in
set_option maxRecDepth 100000 in
theorem c_X3_sumOfDraws {l : Launch} {G : bz_G} {σ : bz_W} {a0 : Nat} (ka0 : bz_k G a0 = (4, 0)) {res : Int32 × bz_W} (hF : f_X3_sumOfDraws σ a0 = some res) : bz_M l yX3_sumOfDraws wz_X3_sumOfDraws 2 42 G σ [.ref a0] (some (.int res.1)) res.2 := by
  refine bz_mk (cc := cX3_sumOfDraws) (maxL := 3) (ret := (some .int)) (own := RX3) (by decide) rfl rfl (Nat.le_of_ble_eq_true rfl) ?_
  intro p e s m args below meth c ls C hlocks hr h hl
  have hx := C.1
  have hb := C.2.1
  have hts := C.2.2.2.2.1
  have hl : lv_has ls 3 [(0, .ref a0)] := hl
  obtain ⟨H, eH⟩ : ∃ y, y = s.heap := ⟨_, rfl⟩
  obtain ⟨locs, el⟩ : ∃ y : List Loc, y = [] := ⟨_, rfl⟩
  rw [← el, ← eH] at h ⊢
  unfold f_X3_sumOfDraws at hF
  refine lv_iconst (v := 0) hx hb dX3_sumOfDraws_0 (by decide) ?_
  refine lv_istore_n (lv' := [(1, .int 0), (0, .ref a0)]) hx hb dX3_sumOfDraws_1 rfl hl (by decide) rfl (fun ls hl => ?_)
  refine lv_iconst (v := 0) hx hb dX3_sumOfDraws_2 (by decide) ?_
  refine lv_istore_n (lv' := [(2, .int 0), (1, .int 0), (0, .ref a0)]) hx hb dX3_sumOfDraws_3 rfl hl (by decide) rfl (fun ls hl => ?_)
  refine L_X3_sumOfDraws_L4 C hlocks hr ka0 _ _ _ _ H locs ls hF h (lv_sub hl [2, 1, 0] rfl) ?_
  intro x9 σ10 H locs ls hF h hl
  refine lv_iload_n hx hb dX3_sumOfDraws_30 rfl (lv_at hl 0 rfl) ?_
  exact bz_iret C h hlocks hr hF dX3_sumOfDraws_31
set_option maxHeartbeats 4000000 in
set_option maxRecDepth 100000 in
theorem c_X4_empty {l : Launch} {G : bz_G} {σ : bz_W} {a0 : Nat} (ka0 : bz_k G a0 = (5, 0)) {res : Int32 × bz_W} (hF : f_X4_empty σ a0 = some res) : bz_M l yX4_empty wz_X4_empty 0 0 G σ [.ref a0] none res.2 := by
  refine bz_mk (cc := cX4_empty) (maxL := 1) (ret := none) (own := RX4) (by decide) rfl rfl (Nat.le_of_ble_eq_true rfl) ?_
  intro p e s m args below meth c ls C hlocks hr h hl
  have hx := C.1
  have hb := C.2.1
  have hts := C.2.2.2.2.1
  have hl : lv_has ls 1 [(0, .ref a0)] := hl
  obtain ⟨H, eH⟩ : ∃ y, y = s.heap := ⟨_, rfl⟩
  obtain ⟨locs, el⟩ : ∃ y : List Loc, y = [] := ⟨_, rfl⟩
  rw [← el, ← eH] at h ⊢
  unfold f_X4_empty at hF
  refine lv_aload_n hx hb dX4_empty_0 rfl (lv_at hl 0 rfl) ?_
  refine lv_iconst (v := 0) hx hb dX4_empty_1 (by decide) ?_
  refine pf_4_4 C h ka0 iz_X4 (List.mem_cons_of_mem _ wd_6_2) dX4_empty_2 (fun H locs h => ?_)
  obtain ⟨σ1, eσ1⟩ : ∃ y : bz_W, y = bz_wi σ a0 4 0 := ⟨_, rfl⟩
  rw [← eσ1] at h
  have hF := lt_u hF σ1 eσ1
  refine lv_aload_n hx hb dX4_empty_5 rfl (lv_at hl 0 rfl) ?_
  refine lv_iconst (v := 0) hx hb dX4_empty_6 (by decide) ?_
  refine pf_4_5 C h ka0 iz_X4 (List.mem_cons_of_mem _ wd_6_3) dX4_empty_7 (fun H locs h => ?_)
  obtain ⟨σ2, eσ2⟩ : ∃ y : bz_W, y = bz_wi σ1 a0 5 0 := ⟨_, rfl⟩
  rw [← eσ2] at h
  have hF := lt_u hF σ2 eσ2
  exact bz_vret C h hlocks hr hF dX4_empty_10
set_option maxHeartbeats 4000000 in
set_option maxRecDepth 100000 in
theorem c_X4_add {l : Launch} {G : bz_G} {σ : bz_W} {a0 : Nat} {x1_ : Int32} {x2_ : Int32} {x3_ : Int32} {x4_ : Int32} (ka0 : bz_k G a0 = (5, 0)) {res : Int32 × bz_W} (hF : f_X4_add σ a0 x1_ x2_ x3_ x4_ = some res) : bz_M l yX4_add wz_X4_add 0 0 G σ [.ref a0, .int x1_, .int x2_, .int x3_, .int x4_] none res.2 := by
  refine bz_mk (cc := cX4_add) (maxL := 5) (ret := none) (own := RX4) (by decide) rfl rfl (Nat.le_of_ble_eq_true rfl) ?_
  intro p e s m args below meth c ls C hlocks hr h hl
  have hx := C.1
  have hb := C.2.1
  have hts := C.2.2.2.2.1
  have hl : lv_has ls 5 [(0, .ref a0), (1, .int x1_), (2, .int x2_), (3, .int x3_), (4, .int x4_)] := hl
  obtain ⟨H, eH⟩ : ∃ y, y = s.heap := ⟨_, rfl⟩
  obtain ⟨locs, el⟩ : ∃ y : List Loc, y = [] := ⟨_, rfl⟩
  rw [← el, ← eH] at h ⊢
  unfold f_X4_add at hF
  refine lv_aload_n hx hb dX4_add_0 rfl (lv_at hl 0 rfl) ?_
  refine gf_4_4 C h ka0 iz_X4 (List.mem_cons_of_mem _ wd_6_2) dX4_add_1 ?_
  refine lv_bipush (v := 10) hx hb dX4_add_4 (by decide) ?_
  refine lv_icmp_ge (tgt := 60) hx hb dX4_add_6 (by decide) (fun c1 => ?_) (fun c1 => ?_)
  · have hF := it_t hF c1
    exact bz_vret C h hlocks hr hF dX4_add_60
  · have hF := it_f hF c1
    refine lv_aload_n hx hb dX4_add_9 rfl (lv_at hl 0 rfl) ?_
    refine gf_4_0 C h ka0 iz_X4 (List.mem_cons_of_mem _ wd_3_5) dX4_add_10 (fun k2 => ?_)
    refine lv_aload_n hx hb dX4_add_13 rfl (lv_at hl 0 rfl) ?_
    refine gf_4_4 C h ka0 iz_X4 (List.mem_cons_of_mem _ wd_6_2) dX4_add_14 ?_
    refine lv_iload_n hx hb dX4_add_17 rfl (lv_at hl 1 rfl) ?_
    obtain ⟨c3, hF⟩ := ck_u hF
    refine bz_iast C h k2 c3 (kx := ((σ.1 a0 4) : Int32).toNatClampNeg) rfl dX4_add_18 (fun H locs h => ?_)
    obtain ⟨σ4, eσ4⟩ : ∃ y : bz_W, y = bz_wi σ (σ.2 a0 0) ((σ.1 a0 4) : Int32).toNatClampNeg x1_ := ⟨_, rfl⟩
    rw [← eσ4] at h
    have hF := lt_u hF σ4 eσ4
    refine lv_aload_n hx hb dX4_add_19 rfl (lv_at hl 0 rfl) ?_
    refine gf_4_1 C h ka0 iz_X4 (List.mem_cons_of_mem _ wd_3_6) dX4_add_20 (fun k5 => ?_)
    refine lv_aload_n hx hb dX4_add_23 rfl (lv_at hl 0 rfl) ?_
    refine gf_4_4 C h ka0 iz_X4 (List.mem_cons_of_mem _ wd_6_2) dX4_add_24 ?_
    refine lv_iload_n hx hb dX4_add_27 rfl (lv_at hl 2 rfl) ?_
    obtain ⟨c6, hF⟩ := ck_u hF
    refine bz_iast C h k5 c6 (kx := ((σ4.1 a0 4) : Int32).toNatClampNeg) rfl dX4_add_28 (fun H locs h => ?_)
    obtain ⟨σ7, eσ7⟩ : ∃ y : bz_W, y = bz_wi σ4 (σ4.2 a0 1) ((σ4.1 a0 4) : Int32).toNatClampNeg x2_ := ⟨_, rfl⟩
    rw [← eσ7] at h
    have hF := lt_u hF σ7 eσ7
    refine lv_aload_n hx hb dX4_add_29 rfl (lv_at hl 0 rfl) ?_
    refine gf_4_2 C h ka0 iz_X4 (List.mem_cons_of_mem _ wd_3_7) dX4_add_30 (fun k8 => ?_)
    refine lv_aload_n hx hb dX4_add_33 rfl (lv_at hl 0 rfl) ?_
    refine gf_4_4 C h ka0 iz_X4 (List.mem_cons_of_mem _ wd_6_2) dX4_add_34 ?_
    refine lv_iload_n hx hb dX4_add_37 rfl (lv_at hl 3 rfl) ?_
    obtain ⟨c9, hF⟩ := ck_u hF
    refine bz_iast C h k8 c9 (kx := ((σ7.1 a0 4) : Int32).toNatClampNeg) rfl dX4_add_38 (fun H locs h => ?_)
    obtain ⟨σ10, eσ10⟩ : ∃ y : bz_W, y = bz_wi σ7 (σ7.2 a0 2) ((σ7.1 a0 4) : Int32).toNatClampNeg x3_ := ⟨_, rfl⟩
    rw [← eσ10] at h
    have hF := lt_u hF σ10 eσ10
    refine lv_aload_n hx hb dX4_add_39 rfl (lv_at hl 0 rfl) ?_
    refine gf_4_3 C h ka0 iz_X4 (List.mem_cons_of_mem _ wd_3_8) dX4_add_40 (fun k11 => ?_)
    refine lv_aload_n hx hb dX4_add_43 rfl (lv_at hl 0 rfl) ?_
    refine gf_4_4 C h ka0 iz_X4 (List.mem_cons_of_mem _ wd_6_2) dX4_add_44 ?_
    refine lv_iload hx hb dX4_add_47 (lv_at hl 4 rfl) ?_
    obtain ⟨c12, hF⟩ := ck_u hF
    refine bz_iast C h k11 c12 (kx := ((σ10.1 a0 4) : Int32).toNatClampNeg) rfl dX4_add_49 (fun H locs h => ?_)
    obtain ⟨σ13, eσ13⟩ : ∃ y : bz_W, y = bz_wi σ10 (σ10.2 a0 3) ((σ10.1 a0 4) : Int32).toNatClampNeg x4_ := ⟨_, rfl⟩
    rw [← eσ13] at h
    have hF := lt_u hF σ13 eσ13
    refine lv_aload_n hx hb dX4_add_50 rfl (lv_at hl 0 rfl) ?_
    refine lv_dup hx hb dX4_add_51 rfl ?_
    refine gf_4_4 C h ka0 iz_X4 (List.mem_cons_of_mem _ wd_6_2) dX4_add_52 ?_
    refine lv_iconst (v := 1) hx hb dX4_add_55 (by decide) ?_
    refine lv_iadd hx hb dX4_add_56 ?_
    refine pf_4_4 C h ka0 iz_X4 (List.mem_cons_of_mem _ wd_6_2) dX4_add_57 (fun H locs h => ?_)
    obtain ⟨σ14, eσ14⟩ : ∃ y : bz_W, y = bz_wi σ13 a0 4 ((σ13.1 a0 4) + 1) := ⟨_, rfl⟩
    rw [← eσ14] at h
    have hF := lt_u hF σ14 eσ14
    exact bz_vret C h hlocks hr hF dX4_add_60
