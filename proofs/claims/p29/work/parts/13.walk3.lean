set_option maxHeartbeats 4000000 in
set_option maxRecDepth 100000 in
theorem c_X6_setLimit {l : Launch} {G : bz_G} {σ : bz_W} {a0 : Nat} {x1_ : Int32} (ka0 : bz_k G a0 = (7, 0)) {res : Int32 × bz_W} (hF : f_X6_setLimit σ a0 x1_ = some res) : bz_M l yX6_setLimit wz_X6_setLimit 4 104 G σ [.ref a0, .int x1_] (some (.int res.1)) res.2 := by
  refine bz_mk (cc := cX6_setLimit) (maxL := 3) (ret := (some .int)) (own := RX6) (by decide) rfl rfl (Nat.le_of_ble_eq_true rfl) ?_
  intro p e s m args below meth c ls C hlocks hr h hl
  have hx := C.1
  have hb := C.2.1
  have hts := C.2.2.2.2.1
  have hl : lv_has ls 3 [(0, .ref a0), (1, .int x1_)] := hl
  obtain ⟨H, eH⟩ : ∃ y, y = s.heap := ⟨_, rfl⟩
  obtain ⟨locs, el⟩ : ∃ y : List Loc, y = [] := ⟨_, rfl⟩
  rw [← el, ← eH] at h ⊢
  unfold f_X6_setLimit at hF
  refine lv_iload_n hx hb dX6_setLimit_0 rfl (lv_at hl 1 rfl) ?_
  refine lv_bipush (v := 10) hx hb dX6_setLimit_1 (by decide) ?_
  refine lv_sipush (v := 2000) hx hb dX6_setLimit_3 (by decide) ?_
  obtain ⟨r1, σ2, qr1, hF⟩ := bd_u hF
  refine bz_callS (rest := []) (st1 := [.int r1]) C h (As := [.int x1_, .int 10, .int 2000]) (o := some (.int r1)) (τ := σ2) (c_X6_isOutside (l := l)  (res := (r1, σ2)) qr1) (va_cwS 3 hts (bz_gS wd_9_1 wd_9_2 wd_1_2 wd_9_3) rfl rfl rfl (by decide +kernel) ⟨Nat.le_of_ble_eq_true rfl, Nat.le_of_ble_eq_true rfl⟩) rfl hl.1 rfl (by decide) ⟨Nat.le_of_ble_eq_true rfl, Nat.le_of_ble_eq_true rfl⟩ dX6_setLimit_6 rfl (fun H locs h => ?_)
  refine lv_if_eq (tgt := 15) hx hb dX6_setLimit_9 (by decide) (fun c3 => ?_) (fun c3 => ?_)
  · have hF := it_t hF c3
    refine lv_aload_n hx hb dX6_setLimit_15 rfl (lv_at hl 0 rfl) ?_
    refine gf_6_0 C h ka0 iz_X6 (List.mem_cons_of_mem _ wd_1_12) dX6_setLimit_16 (fun k4 => ?_)
    refine gf_3_5 C h k4 iz_X3 (List.mem_cons_of_mem _ wd_16_6) dX6_setLimit_19 ?_
    refine lv_topi (fun x5 ex5 => ?_)
    have hF := lt_u hF x5 ex5
    refine lv_istore_n (lv' := [(2, .int x5), (0, .ref a0), (1, .int x1_)]) hx hb dX6_setLimit_22 rfl hl (by decide) rfl (fun ls hl => ?_)
    refine lv_iload_n hx hb dX6_setLimit_23 rfl (lv_at hl 2 rfl) ?_
    refine lv_iload_n hx hb dX6_setLimit_24 rfl (lv_at hl 0 rfl) ?_
    refine lv_icmp_ne (tgt := 31) hx hb dX6_setLimit_25 (by decide) (fun c6 => ?_) (fun c6 => ?_)
    · have hF := it_f hF c6
      refine lv_aload_n hx hb dX6_setLimit_31 rfl (lv_at hl 1 rfl) ?_
      refine gf_6_1 C h ka0 iz_X6 (List.mem_cons_of_mem _ wd_1_16) dX6_setLimit_32 (fun k7 => ?_)
      refine lv_aload_n hx hb dX6_setLimit_35 rfl (lv_at hl 1 rfl) ?_
      refine gf_6_0 C h ka0 iz_X6 (List.mem_cons_of_mem _ wd_1_12) dX6_setLimit_36 (fun k8 => ?_)
      obtain ⟨r9, σ10, qr9, hF⟩ := bd_u hF
      refine bz_callV (rest := []) (st1 := []) C h (As := [.ref (σ2.2 a0 0)]) (o := none) (τ := σ10) (c_X1_record (l := l) k7 k8 (res := (r9, σ10)) qr9) k7 (by decide) (ci := 1) rfl (cwV 1 hts (bz_gV wd_6_16 wd_6_17 wd_6_18 wd_1_15 wd_6_19) rfl rfl rfl (by decide +kernel) ⟨Nat.le_of_ble_eq_true rfl, Nat.le_of_ble_eq_true rfl⟩) rfl hl.1 rfl (by decide) ⟨Nat.le_of_ble_eq_true rfl, Nat.le_of_ble_eq_true rfl⟩ dX6_setLimit_39 rfl (fun H locs h => ?_)
      refine lv_aload_n hx hb dX6_setLimit_42 rfl (lv_at hl 1 rfl) ?_
      refine gf_6_0 C h ka0 iz_X6 (List.mem_cons_of_mem _ wd_1_12) dX6_setLimit_43 (fun k11 => ?_)
      refine lv_iload_n hx hb dX6_setLimit_46 rfl (lv_at hl 2 rfl) ?_
      refine pf_3_5 C h k11 iz_X3 (List.mem_cons_of_mem _ wd_16_6) dX6_setLimit_47 (fun H locs h => ?_)
      obtain ⟨σ12, eσ12⟩ : ∃ y : bz_W, y = bz_wi σ10 (σ10.2 a0 0) 5 x1_ := ⟨_, rfl⟩
      rw [← eσ12] at h
      have hF := lt_u hF σ12 eσ12
      refine lv_iload_n hx hb dX6_setLimit_50 rfl (lv_at hl 0 rfl) ?_
      exact bz_iret C h hlocks hr hF dX6_setLimit_51
    · have hF := it_t hF c6
      refine lv_bipush (v := (-4)) hx hb dX6_setLimit_28 (by decide) ?_
      exact bz_iret C h hlocks hr hF dX6_setLimit_30
  · have hF := it_f hF c3
    refine lv_bipush (v := (-2)) hx hb dX6_setLimit_12 (by decide) ?_
    exact bz_iret C h hlocks hr hF dX6_setLimit_14
set_option maxHeartbeats 4000000 in
set_option maxRecDepth 100000 in
theorem c_X6_checkLoss {l : Launch} {G : bz_G} {σ : bz_W} {a0 : Nat} {a1 : Nat} {x2_ : Int32} (ka0 : bz_k G a0 = (7, 0)) (ka1 : bz_k G a1 = (3, 0)) {res : Int32 × bz_W} (hF : f_X6_checkLoss σ a0 a1 x2_ = some res) : bz_M l yX6_checkLoss wz_X6_checkLoss 1 22 G σ [.ref a0, .ref a1, .int x2_] (some (.int res.1)) res.2 := by
  refine bz_mk (cc := cX6_checkLoss) (maxL := 3) (ret := (some .int)) (own := RX6) (by decide) rfl rfl (Nat.le_of_ble_eq_true rfl) ?_
  intro p e s m args below meth c ls C hlocks hr h hl
  have hx := C.1
  have hb := C.2.1
  have hts := C.2.2.2.2.1
  have hl : lv_has ls 3 [(0, .ref a0), (1, .ref a1), (2, .int x2_)] := hl
  obtain ⟨H, eH⟩ : ∃ y, y = s.heap := ⟨_, rfl⟩
  obtain ⟨locs, el⟩ : ∃ y : List Loc, y = [] := ⟨_, rfl⟩
  rw [← el, ← eH] at h ⊢
  unfold f_X6_checkLoss at hF
  refine lv_iload_n hx hb dX6_checkLoss_0 rfl (lv_at hl 2 rfl) ?_
  refine lv_iconst (v := 0) hx hb dX6_checkLoss_1 (by decide) ?_
  refine lv_bipush (v := 7) hx hb dX6_checkLoss_2 (by decide) ?_
  obtain ⟨r1, σ2, qr1, hF⟩ := bd_u hF
  refine bz_callS (rest := []) (st1 := [.int r1]) C h (As := [.int x2_, .int 0, .int 7]) (o := some (.int r1)) (τ := σ2) (c_X6_isOutside (l := l)  (res := (r1, σ2)) qr1) (va_cwS 3 hts (bz_gS wd_9_1 wd_9_2 wd_1_2 wd_9_3) rfl rfl rfl (by decide +kernel) ⟨Nat.le_of_ble_eq_true rfl, Nat.le_of_ble_eq_true rfl⟩) rfl hl.1 rfl (by decide) ⟨Nat.le_of_ble_eq_true rfl, Nat.le_of_ble_eq_true rfl⟩ dX6_checkLoss_4 rfl (fun H locs h => ?_)
  refine lv_if_eq (tgt := 13) hx hb dX6_checkLoss_7 (by decide) (fun c3 => ?_) (fun c3 => ?_)
  · have hF := it_t hF c3
    refine lv_iload_n hx hb dX6_checkLoss_13 rfl (lv_at hl 2 rfl) ?_
    refine lv_aload_n hx hb dX6_checkLoss_14 rfl (lv_at hl 1 rfl) ?_
    refine gf_2_10 C h ka1 iz_X2 (List.mem_cons_of_mem _ wd_9_0) dX6_checkLoss_15 ?_
    refine lv_icmp_ne (tgt := 26) hx hb dX6_checkLoss_18 (by decide) (fun c4 => ?_) (fun c4 => ?_)
    · have hF := it_f hF c4
      refine lv_iconst (v := 0) hx hb dX6_checkLoss_26 (by decide) ?_
      exact bz_iret C h hlocks hr hF dX6_checkLoss_27
    · have hF := it_t hF c4
      refine lv_bipush (v := (-4)) hx hb dX6_checkLoss_21 (by decide) ?_
      refine lv_goto (tgt := 27) hx hb dX6_checkLoss_23 (by decide) ?_
      exact bz_iret C h hlocks hr hF dX6_checkLoss_27
  · have hF := it_f hF c3
    refine lv_bipush (v := (-2)) hx hb dX6_checkLoss_10 (by decide) ?_
    exact bz_iret C h hlocks hr hF dX6_checkLoss_12
set_option maxHeartbeats 4000000 in
set_option maxRecDepth 100000 in
theorem c_X6_checkReset {l : Launch} {G : bz_G} {σ : bz_W} {a0 : Nat} {a1 : Nat} (ka0 : bz_k G a0 = (7, 0)) (ka1 : bz_k G a1 = (3, 0)) {res : Int32 × bz_W} (hF : f_X6_checkReset σ a0 a1 = some res) : bz_M l yX6_checkReset wz_X6_checkReset 1 21 G σ [.ref a0, .ref a1] (some (.int res.1)) res.2 := by
  refine bz_mk (cc := cX6_checkReset) (maxL := 2) (ret := (some .int)) (own := RX6) (by decide) rfl rfl (Nat.le_of_ble_eq_true rfl) ?_
  intro p e s m args below meth c ls C hlocks hr h hl
  have hx := C.1
  have hb := C.2.1
  have hts := C.2.2.2.2.1
  have hl : lv_has ls 2 [(0, .ref a0), (1, .ref a1)] := hl
  obtain ⟨H, eH⟩ : ∃ y, y = s.heap := ⟨_, rfl⟩
  obtain ⟨locs, el⟩ : ∃ y : List Loc, y = [] := ⟨_, rfl⟩
  rw [← el, ← eH] at h ⊢
  unfold f_X6_checkReset at hF
  refine lv_aload_n hx hb dX6_checkReset_0 rfl (lv_at hl 1 rfl) ?_
  refine gf_2_8 C h ka1 iz_X2 (List.mem_cons_of_mem _ wd_7_11) dX6_checkReset_1 ?_
  refine lv_iconst (v := 4) hx hb dX6_checkReset_4 (by decide) ?_
  refine lv_icmp_eq (tgt := 14) hx hb dX6_checkReset_5 (by decide) (fun c1 => ?_) (fun c1 => ?_)
  · have hF := it_t hF c1
    refine lv_aload_n hx hb dX6_checkReset_14 rfl (lv_at hl 1 rfl) ?_
    refine gf_2_10 C h ka1 iz_X2 (List.mem_cons_of_mem _ wd_9_0) dX6_checkReset_15 ?_
    refine lv_if_eq (tgt := 27) hx hb dX6_checkReset_18 (by decide) (fun c2 => ?_) (fun c2 => ?_)
    · have hF := it_t hF c2
      refine lv_aload_n hx hb dX6_checkReset_27 rfl (lv_at hl 1 rfl) ?_
      refine gf_2_9 C h ka1 iz_X2 (List.mem_cons_of_mem _ wd_9_8) dX6_checkReset_28 ?_
      refine lv_aload_n hx hb dX6_checkReset_31 rfl (lv_at hl 1 rfl) ?_
      refine gf_2_5 C h ka1 iz_X2 (List.mem_cons_of_mem _ wd_9_9) dX6_checkReset_32 ?_
      refine lv_iconst (v := 2) hx hb dX6_checkReset_35 (by decide) ?_
      refine lv_idiv hx hb dX6_checkReset_36 (by decide) ?_
      refine lv_icmp_le (tgt := 48) hx hb dX6_checkReset_37 (by decide) (fun c3 => ?_) (fun c3 => ?_)
      · have hF := it_t hF c3
        refine lv_iconst (v := 0) hx hb dX6_checkReset_48 (by decide) ?_
        exact bz_iret C h hlocks hr hF dX6_checkReset_49
      · have hF := it_f hF c3
        refine lv_aload_n hx hb dX6_checkReset_40 rfl (lv_at hl 0 rfl) ?_
        refine lv_iconst (v := 2) hx hb dX6_checkReset_41 (by decide) ?_
        obtain ⟨r4, σ5, qr4, hF⟩ := bd_u hF
        refine bz_callV (rest := []) (st1 := [.int r4]) C h (As := [.int 2]) (o := some (.int r4)) (τ := σ5) (c_X6_refuse (l := l) ka0 (res := (r4, σ5)) qr4) ka0 (by decide) (ci := 6) rfl (cwV 1 hts (bz_gV wd_8_15 wd_8_16 wd_8_17 wd_1_2 wd_8_18) rfl rfl rfl (by decide +kernel) ⟨Nat.le_of_ble_eq_true rfl, Nat.le_of_ble_eq_true rfl⟩) rfl hl.1 rfl (by decide) ⟨Nat.le_of_ble_eq_true rfl, Nat.le_of_ble_eq_true rfl⟩ dX6_checkReset_42 rfl (fun H locs h => ?_)
        refine lv_goto (tgt := 49) hx hb dX6_checkReset_45 (by decide) ?_
        exact bz_iret C h hlocks hr hF dX6_checkReset_49
    · have hF := it_f hF c2
      refine lv_aload_n hx hb dX6_checkReset_21 rfl (lv_at hl 0 rfl) ?_
      refine lv_iconst (v := 4) hx hb dX6_checkReset_22 (by decide) ?_
      obtain ⟨r6, σ7, qr6, hF⟩ := bd_u hF
      refine bz_callV (rest := []) (st1 := [.int r6]) C h (As := [.int 4]) (o := some (.int r6)) (τ := σ7) (c_X6_refuse (l := l) ka0 (res := (r6, σ7)) qr6) ka0 (by decide) (ci := 6) rfl (cwV 1 hts (bz_gV wd_8_15 wd_8_16 wd_8_17 wd_1_2 wd_8_18) rfl rfl rfl (by decide +kernel) ⟨Nat.le_of_ble_eq_true rfl, Nat.le_of_ble_eq_true rfl⟩) rfl hl.1 rfl (by decide) ⟨Nat.le_of_ble_eq_true rfl, Nat.le_of_ble_eq_true rfl⟩ dX6_checkReset_23 rfl (fun H locs h => ?_)
      exact bz_iret C h hlocks hr hF dX6_checkReset_26
  · have hF := it_f hF c1
    refine lv_aload_n hx hb dX6_checkReset_8 rfl (lv_at hl 0 rfl) ?_
    refine lv_iconst (v := 1) hx hb dX6_checkReset_9 (by decide) ?_
    obtain ⟨r8, σ9, qr8, hF⟩ := bd_u hF
    refine bz_callV (rest := []) (st1 := [.int r8]) C h (As := [.int 1]) (o := some (.int r8)) (τ := σ9) (c_X6_refuse (l := l) ka0 (res := (r8, σ9)) qr8) ka0 (by decide) (ci := 6) rfl (cwV 1 hts (bz_gV wd_8_15 wd_8_16 wd_8_17 wd_1_2 wd_8_18) rfl rfl rfl (by decide +kernel) ⟨Nat.le_of_ble_eq_true rfl, Nat.le_of_ble_eq_true rfl⟩) rfl hl.1 rfl (by decide) ⟨Nat.le_of_ble_eq_true rfl, Nat.le_of_ble_eq_true rfl⟩ dX6_checkReset_10 rfl (fun H locs h => ?_)
    exact bz_iret C h hlocks hr hF dX6_checkReset_13
set_option maxHeartbeats 4000000 in
set_option maxRecDepth 100000 in
theorem c_X6_checkOrder {l : Launch} {G : bz_G} {σ : bz_W} {a0 : Nat} {x1_ : Int32} {x2_ : Int32} {x3_ : Int32} (ka0 : bz_k G a0 = (7, 0)) {res : Int32 × bz_W} (hF : f_X6_checkOrder σ a0 x1_ x2_ x3_ = some res) : bz_M l yX6_checkOrder wz_X6_checkOrder 2 44 G σ [.ref a0, .int x1_, .int x2_, .int x3_] (some (.int res.1)) res.2 := by
  refine bz_mk (cc := cX6_checkOrder) (maxL := 5) (ret := (some .int)) (own := RX6) (by decide) rfl rfl (Nat.le_of_ble_eq_true rfl) ?_
  intro p e s m args below meth c ls C hlocks hr h hl
  have hx := C.1
  have hb := C.2.1
  have hts := C.2.2.2.2.1
  have hl : lv_has ls 5 [(0, .ref a0), (1, .int x1_), (2, .int x2_), (3, .int x3_)] := hl
  obtain ⟨H, eH⟩ : ∃ y, y = s.heap := ⟨_, rfl⟩
  obtain ⟨locs, el⟩ : ∃ y : List Loc, y = [] := ⟨_, rfl⟩
  rw [← el, ← eH] at h ⊢
  unfold f_X6_checkOrder at hF
  refine lv_iload_n hx hb dX6_checkOrder_0 rfl (lv_at hl 1 rfl) ?_
  refine lv_iconst (v := 4) hx hb dX6_checkOrder_1 (by decide) ?_
  refine lv_icmp_ne (tgt := 32) hx hb dX6_checkOrder_2 (by decide) (fun c1 => ?_) (fun c1 => ?_)
  · have hF := it_f hF c1
    refine lv_aload_n hx hb dX6_checkOrder_32 rfl (lv_at hl 0 rfl) ?_
    refine gf_6_0 C h ka0 iz_X6 (List.mem_cons_of_mem _ wd_1_12) dX6_checkOrder_33 (fun k2 => ?_)
    refine lv_iload_n hx hb dX6_checkOrder_36 rfl (lv_at hl 2 rfl) ?_
    obtain ⟨r3, σ4, qr3, hF⟩ := bd_u hF
    have h0 := h
    refine bz_callV (rest := []) (st1 := [bz_rv r3]) C h (As := [.int x2_]) (o := some (bz_rv r3)) (τ := σ4) (c_X3_find (l := l) k2 (res := (r3, σ4)) qr3) k2 (by decide) (ci := 3) rfl (cwV 1 hts (bz_gV wd_8_11 wd_8_12 wd_8_13 wd_1_11 wd_8_14) rfl rfl rfl (by decide +kernel) ⟨Nat.le_of_ble_eq_true rfl, Nat.le_of_ble_eq_true rfl⟩) rfl hl.1 rfl (by decide) ⟨Nat.le_of_ble_eq_true rfl, Nat.le_of_ble_eq_true rfl⟩ dX6_checkOrder_37 rfl (fun H locs h => ?_)
    by_cases zr3 : r3 = 0
    · have hF := it_t hF zr3
      rw [show bz_rv r3 = .null by rw [zr3]; rfl]
      refine lv_astoreN (lv' := [(4, .null), (0, .ref a0), (1, .int x1_), (2, .int x2_), (3, .int x3_)]) hx hb dX6_checkOrder_40 hl (by decide) rfl (fun ls hl => ?_)
      refine lv_aloadN hx hb dX6_checkOrder_42 (lv_at hl 0 rfl) ?_
      refine lv_ifnonnullN hx hb dX6_checkOrder_44 ?_
      refine lv_iconst (v := (-1)) hx hb dX6_checkOrder_47 (by decide) ?_
      exact bz_iret C h hlocks hr hF dX6_checkOrder_48
    · have hF := it_f hF zr3
      have kr3 := kd_X3_find k2 h0.2.1 qr3 zr3
      rw [bz_rv0 C.2.2.2.2.2.1.2.2.2 kr3 (by decide)]
      refine lv_astore (lv' := [(4, .ref r3), (0, .ref a0), (1, .int x1_), (2, .int x2_), (3, .int x3_)]) hx hb dX6_checkOrder_40 hl (by decide) rfl (fun ls hl => ?_)
      refine lv_aload hx hb dX6_checkOrder_42 (lv_at hl 0 rfl) ?_
      refine lv_ifnonnull (tgt := 49) hx hb dX6_checkOrder_44 (by decide) ?_
      refine lv_iload_n hx hb dX6_checkOrder_49 rfl (lv_at hl 2 rfl) ?_
      by_cases c5 : x1_ = 0
      · have hF := it_t hF c5
        refine lv_tableIn (tgt := 76) hx hb dX6_checkOrder_50 (by rw [c5]; decide) (by rw [c5]; decide) (by rw [c5]; rfl) (by decide) ?_
        refine lv_aload hx hb dX6_checkOrder_76 (lv_at hl 0 rfl) ?_
        refine gf_2_8 C h kr3 iz_X2 (List.mem_cons_of_mem _ wd_7_11) dX6_checkOrder_78 ?_
        refine lv_if_ne (tgt := 88) hx hb dX6_checkOrder_81 (by decide) (fun c6 => ?_) (fun c6 => ?_)
        · have hF := it_f hF c6
          refine lv_aload_n hx hb dX6_checkOrder_88 rfl (lv_at hl 1 rfl) ?_
          refine lv_iconst (v := 1) hx hb dX6_checkOrder_89 (by decide) ?_
          obtain ⟨r7, σ8, qr7, hF⟩ := bd_u hF
          refine bz_callV (rest := []) (st1 := [.int r7]) C h (As := [.int 1]) (o := some (.int r7)) (τ := σ8) (c_X6_refuse (l := l) ka0 (res := (r7, σ8)) qr7) ka0 (by decide) (ci := 6) rfl (cwV 1 hts (bz_gV wd_8_15 wd_8_16 wd_8_17 wd_1_2 wd_8_18) rfl rfl rfl (by decide +kernel) ⟨Nat.le_of_ble_eq_true rfl, Nat.le_of_ble_eq_true rfl⟩) rfl hl.1 rfl (by decide) ⟨Nat.le_of_ble_eq_true rfl, Nat.le_of_ble_eq_true rfl⟩ dX6_checkOrder_90 rfl (fun H locs h => ?_)
          exact bz_iret C h hlocks hr hF dX6_checkOrder_93
        · have hF := it_t hF c6
          refine lv_iconst (v := 0) hx hb dX6_checkOrder_84 (by decide) ?_
          refine lv_goto (tgt := 93) hx hb dX6_checkOrder_85 (by decide) ?_
          exact bz_iret C h hlocks hr hF dX6_checkOrder_93
      have hF := it_f hF c5
      by_cases c9 : x1_ = 1
      · have hF := it_t hF c9
        refine lv_tableIn (tgt := 94) hx hb dX6_checkOrder_50 (by rw [c9]; decide) (by rw [c9]; decide) (by rw [c9]; rfl) (by decide) ?_
        refine lv_aload hx hb dX6_checkOrder_94 (lv_at hl 0 rfl) ?_
        refine gf_2_8 C h kr3 iz_X2 (List.mem_cons_of_mem _ wd_7_11) dX6_checkOrder_96 ?_
        obtain ⟨j11, ej11, hF⟩ := lt_j hF
        have hj11 : ∀ (σ10 : bz_W) (H : Heap) (locs : List Loc) (ls : Array Slot), j11 σ10 = some res → bz_H G s σ10 H locs → lv_has ls 5 [(0, .ref a0)] → W p l e ({ frames := 2, cells := 0, slots := 0, locals := 44 } : Room) s m args below meth c H locs 0 0 (MQ below (bz_Qc G (some (.int res.1)) res.2) args s 0 0 (bz_A G)) (F0 m 111 ls []) := by
            intro σ10 H locs ls hF h hl
            subst ej11
            refine lv_aload_n hx hb dX6_checkOrder_111 rfl (lv_at hl 0 rfl) ?_
            refine lv_iconst (v := 1) hx hb dX6_checkOrder_112 (by decide) ?_
            obtain ⟨r12, σ13, qr12, hF⟩ := bd_u hF
            refine bz_callV (rest := []) (st1 := [.int r12]) C h (As := [.int 1]) (o := some (.int r12)) (τ := σ13) (c_X6_refuse (l := l) ka0 (res := (r12, σ13)) qr12) ka0 (by decide) (ci := 6) rfl (cwV 1 hts (bz_gV wd_8_15 wd_8_16 wd_8_17 wd_1_2 wd_8_18) rfl rfl rfl (by decide +kernel) ⟨Nat.le_of_ble_eq_true rfl, Nat.le_of_ble_eq_true rfl⟩) rfl hl.1 rfl (by decide) ⟨Nat.le_of_ble_eq_true rfl, Nat.le_of_ble_eq_true rfl⟩ dX6_checkOrder_113 rfl (fun H locs h => ?_)
            refine lv_goto (tgt := 120) hx hb dX6_checkOrder_116 (by decide) ?_
            exact bz_iret C h hlocks hr hF dX6_checkOrder_120
        refine lv_if_eq (tgt := 111) hx hb dX6_checkOrder_99 (by decide) (fun c14 => ?_) (fun c14 => ?_)
        · have hF := it_t hF c14
          exact hj11 _ H locs ls hF h (lv_sub hl [1] rfl)
        · have hF := it_f hF c14
          refine lv_aload hx hb dX6_checkOrder_102 (lv_at hl 0 rfl) ?_
          refine gf_2_8 C h kr3 iz_X2 (List.mem_cons_of_mem _ wd_7_11) dX6_checkOrder_104 ?_
          refine lv_iconst (v := 4) hx hb dX6_checkOrder_107 (by decide) ?_
          refine lv_icmp_ne (tgt := 119) hx hb dX6_checkOrder_108 (by decide) (fun c15 => ?_) (fun c15 => ?_)
          · have hF := it_f hF c15
            refine lv_iconst (v := 0) hx hb dX6_checkOrder_119 (by decide) ?_
            exact bz_iret C h hlocks hr hF dX6_checkOrder_120
          · have hF := it_t hF c15
            exact hj11 _ H locs ls hF h (lv_sub hl [1] rfl)
      have hF := it_f hF c9
      by_cases c16 : x1_ = 2
      · have hF := it_t hF c16
        refine lv_tableIn (tgt := 121) hx hb dX6_checkOrder_50 (by rw [c16]; decide) (by rw [c16]; decide) (by rw [c16]; rfl) (by decide) ?_
        refine lv_aload_n hx hb dX6_checkOrder_121 rfl (lv_at hl 1 rfl) ?_
        refine lv_aload hx hb dX6_checkOrder_122 (lv_at hl 0 rfl) ?_
        refine lv_iload_n hx hb dX6_checkOrder_124 rfl (lv_at hl 4 rfl) ?_
        obtain ⟨r17, σ18, qr17, hF⟩ := bd_u hF
        refine bz_callV (rest := []) (st1 := [.int r17]) C h (As := [.ref r3, .int x3_]) (o := some (.int r17)) (τ := σ18) (c_X6_checkLoss (l := l) ka0 kr3 (res := (r17, σ18)) qr17) ka0 (by decide) (ci := 6) rfl (cwV 2 hts (bz_gV wd_8_20 wd_8_21 wd_8_22 wd_1_2 wd_8_23) rfl rfl rfl (by decide +kernel) ⟨Nat.le_of_ble_eq_true rfl, Nat.le_of_ble_eq_true rfl⟩) rfl hl.1 rfl (by decide) ⟨Nat.le_of_ble_eq_true rfl, Nat.le_of_ble_eq_true rfl⟩ dX6_checkOrder_125 rfl (fun H locs h => ?_)
        exact bz_iret C h hlocks hr hF dX6_checkOrder_128
      have hF := it_f hF c16
      refine lv_tableOut (tgt := 129) hx hb dX6_checkOrder_50 (bz_out3 c5 c9 c16) (by decide) ?_
      refine lv_aload_n hx hb dX6_checkOrder_129 rfl (lv_at hl 1 rfl) ?_
      refine lv_aload hx hb dX6_checkOrder_130 (lv_at hl 0 rfl) ?_
      obtain ⟨r19, σ20, qr19, hF⟩ := bd_u hF
      refine bz_callV (rest := []) (st1 := [.int r19]) C h (As := [.ref r3]) (o := some (.int r19)) (τ := σ20) (c_X6_checkReset (l := l) ka0 kr3 (res := (r19, σ20)) qr19) ka0 (by decide) (ci := 6) rfl (cwV 1 hts (bz_gV wd_9_4 wd_9_5 wd_9_6 wd_1_2 wd_9_7) rfl rfl rfl (by decide +kernel) ⟨Nat.le_of_ble_eq_true rfl, Nat.le_of_ble_eq_true rfl⟩) rfl hl.1 rfl (by decide) ⟨Nat.le_of_ble_eq_true rfl, Nat.le_of_ble_eq_true rfl⟩ dX6_checkOrder_132 rfl (fun H locs h => ?_)
      exact bz_iret C h hlocks hr hF dX6_checkOrder_135
  · have hF := it_t hF c1
    refine lv_iload_n hx hb dX6_checkOrder_5 rfl (lv_at hl 2 rfl) ?_
    refine lv_iconst (v := 1) hx hb dX6_checkOrder_6 (by decide) ?_
    refine lv_icmp_ne (tgt := 14) hx hb dX6_checkOrder_7 (by decide) (fun c21 => ?_) (fun c21 => ?_)
    · have hF := it_f hF c21
      refine lv_iconst (v := 0) hx hb dX6_checkOrder_14 (by decide) ?_
      refine lv_aload_n hx hb dX6_checkOrder_15 rfl (lv_at hl 0 rfl) ?_
      refine gf_6_0 C h ka0 iz_X6 (List.mem_cons_of_mem _ wd_1_12) dX6_checkOrder_16 (fun k22 => ?_)
      refine gf_3_6 C h k22 iz_X3 (List.mem_cons_of_mem _ wd_8_10) dX6_checkOrder_19 ?_
      refine lv_icmp_ne (tgt := 30) hx hb dX6_checkOrder_22 (by decide) (fun c23 => ?_) (fun c23 => ?_)
      · have hF := it_f hF c23
        refine lv_iconst (v := 0) hx hb dX6_checkOrder_30 (by decide) ?_
        exact bz_iret C h hlocks hr hF dX6_checkOrder_31
      · have hF := it_t hF c23
        refine lv_bipush (v := (-4)) hx hb dX6_checkOrder_25 (by decide) ?_
        refine lv_goto (tgt := 31) hx hb dX6_checkOrder_27 (by decide) ?_
        exact bz_iret C h hlocks hr hF dX6_checkOrder_31
    · have hF := it_t hF c21
      refine lv_iconst (v := 1) hx hb dX6_checkOrder_10 (by decide) ?_
      refine lv_goto (tgt := 15) hx hb dX6_checkOrder_11 (by decide) ?_
      refine lv_aload_n hx hb dX6_checkOrder_15 rfl (lv_at hl 0 rfl) ?_
      refine gf_6_0 C h ka0 iz_X6 (List.mem_cons_of_mem _ wd_1_12) dX6_checkOrder_16 (fun k24 => ?_)
      refine gf_3_6 C h k24 iz_X3 (List.mem_cons_of_mem _ wd_8_10) dX6_checkOrder_19 ?_
      refine lv_icmp_ne (tgt := 30) hx hb dX6_checkOrder_22 (by decide) (fun c25 => ?_) (fun c25 => ?_)
      · have hF := it_f hF c25
        refine lv_iconst (v := 0) hx hb dX6_checkOrder_30 (by decide) ?_
        exact bz_iret C h hlocks hr hF dX6_checkOrder_31
      · have hF := it_t hF c25
        refine lv_bipush (v := (-4)) hx hb dX6_checkOrder_25 (by decide) ?_
        refine lv_goto (tgt := 31) hx hb dX6_checkOrder_27 (by decide) ?_
        exact bz_iret C h hlocks hr hF dX6_checkOrder_31
set_option maxHeartbeats 4000000 in
set_option maxRecDepth 100000 in
theorem c_X6_carryOutLoss {l : Launch} {G : bz_G} {σ : bz_W} {a0 : Nat} {a1 : Nat} {x2_ : Int32} (ka0 : bz_k G a0 = (7, 0)) (ka1 : bz_k G a1 = (3, 0)) {res : Int32 × bz_W} (hF : f_X6_carryOutLoss σ a0 a1 x2_ = some res) : bz_M l yX6_carryOutLoss wz_X6_carryOutLoss 3 68 G σ [.ref a0, .ref a1, .int x2_] (some (.int res.1)) res.2 := by
  refine bz_mk (cc := cX6_carryOutLoss) (maxL := 4) (ret := (some .int)) (own := RX6) (by decide) rfl rfl (Nat.le_of_ble_eq_true rfl) ?_
  intro p e s m args below meth c ls C hlocks hr h hl
  have hx := C.1
  have hb := C.2.1
  have hts := C.2.2.2.2.1
  have hl : lv_has ls 4 [(0, .ref a0), (1, .ref a1), (2, .int x2_)] := hl
  obtain ⟨H, eH⟩ : ∃ y, y = s.heap := ⟨_, rfl⟩
  obtain ⟨locs, el⟩ : ∃ y : List Loc, y = [] := ⟨_, rfl⟩
  rw [← el, ← eH] at h ⊢
  unfold f_X6_carryOutLoss at hF
  refine lv_aload_n hx hb dX6_carryOutLoss_0 rfl (lv_at hl 1 rfl) ?_
  refine gf_2_10 C h ka1 iz_X2 (List.mem_cons_of_mem _ wd_9_0) dX6_carryOutLoss_1 ?_
  refine lv_topi (fun x1 ex1 => ?_)
  have hF := lt_u hF x1 ex1
  refine lv_istore_n (lv' := [(3, .int x1), (0, .ref a0), (1, .ref a1), (2, .int x2_)]) hx hb dX6_carryOutLoss_4 rfl hl (by decide) rfl (fun ls hl => ?_)
  refine lv_aload_n hx hb dX6_carryOutLoss_5 rfl (lv_at hl 2 rfl) ?_
  refine lv_iload_n hx hb dX6_carryOutLoss_6 rfl (lv_at hl 3 rfl) ?_
  refine pf_2_10 C h ka1 iz_X2 (List.mem_cons_of_mem _ wd_9_0) dX6_carryOutLoss_7 (fun H locs h => ?_)
  obtain ⟨σ2, eσ2⟩ : ∃ y : bz_W, y = bz_wi σ a1 10 x2_ := ⟨_, rfl⟩
  rw [← eσ2] at h
  have hF := lt_u hF σ2 eσ2
  refine lv_aload_n hx hb dX6_carryOutLoss_10 rfl (lv_at hl 2 rfl) ?_
  refine gf_2_8 C h ka1 iz_X2 (List.mem_cons_of_mem _ wd_7_11) dX6_carryOutLoss_11 ?_
  refine lv_iconst (v := 2) hx hb dX6_carryOutLoss_14 (by decide) ?_
  refine lv_icmp_ne (tgt := 35) hx hb dX6_carryOutLoss_15 (by decide) (fun c3 => ?_) (fun c3 => ?_)
  · have hF := it_f hF c3
    refine lv_iload_n hx hb dX6_carryOutLoss_35 rfl (lv_at hl 0 rfl) ?_
    exact bz_iret C h hlocks hr hF dX6_carryOutLoss_36
  · have hF := it_t hF c3
    refine lv_iload_n hx hb dX6_carryOutLoss_18 rfl (lv_at hl 3 rfl) ?_
    refine lv_if_eq (tgt := 35) hx hb dX6_carryOutLoss_19 (by decide) (fun c4 => ?_) (fun c4 => ?_)
    · have hF := it_t hF c4
      refine lv_iload_n hx hb dX6_carryOutLoss_35 rfl (lv_at hl 0 rfl) ?_
      exact bz_iret C h hlocks hr hF dX6_carryOutLoss_36
    · have hF := it_f hF c4
      refine lv_aload_n hx hb dX6_carryOutLoss_22 rfl (lv_at hl 1 rfl) ?_
      refine gf_6_0 C h ka0 iz_X6 (List.mem_cons_of_mem _ wd_1_12) dX6_carryOutLoss_23 (fun k5 => ?_)
      refine lv_aload_n hx hb dX6_carryOutLoss_26 rfl (lv_at hl 2 rfl) ?_
      refine lv_aload_n hx hb dX6_carryOutLoss_27 rfl (lv_at hl 2 rfl) ?_
      refine lv_iconst (v := 4) hx hb dX6_carryOutLoss_28 (by decide) ?_
      obtain ⟨r6, σ7, qr6, hF⟩ := bd_u hF
      refine bz_callV (rest := [.ref a1, .ref (σ2.2 a0 0)]) (st1 := [.int r6, .ref a1, .ref (σ2.2 a0 0)]) C h (As := [.int 4]) (o := some (.int r6)) (τ := σ7) (c_X2_trip (l := l) ka1 (res := (r6, σ7)) qr6) ka1 (by decide) (ci := 2) rfl (cwV 1 hts (bz_gV wd_10_12 wd_10_13 wd_10_14 wd_2_11 wd_10_15) rfl rfl rfl (by decide +kernel) ⟨Nat.le_of_ble_eq_true rfl, Nat.le_of_ble_eq_true rfl⟩) rfl hl.1 rfl (Nat.le_of_ble_eq_true rfl) ⟨Nat.le_of_ble_eq_true rfl, Nat.le_of_ble_eq_true rfl⟩ dX6_carryOutLoss_29 rfl (fun H locs h => ?_)
      obtain ⟨r8, σ9, qr8, hF⟩ := bd_u hF
      refine bz_callV (rest := []) (st1 := []) C h (As := [.ref a1, .int r6]) (o := none) (τ := σ9) (c_X3_note (l := l) k5 ka1 (res := (r8, σ9)) qr8) k5 (by decide) (ci := 3) rfl (cwV 2 hts (bz_gV wd_9_19 wd_9_20 wd_9_21 wd_1_11 wd_9_22) rfl rfl rfl (by decide +kernel) ⟨Nat.le_of_ble_eq_true rfl, Nat.le_of_ble_eq_true rfl⟩) rfl hl.1 rfl (by decide) ⟨Nat.le_of_ble_eq_true rfl, Nat.le_of_ble_eq_true rfl⟩ dX6_carryOutLoss_32 rfl (fun H locs h => ?_)
      refine lv_iload_n hx hb dX6_carryOutLoss_35 rfl (lv_at hl 0 rfl) ?_
      exact bz_iret C h hlocks hr hF dX6_carryOutLoss_36
set_option maxHeartbeats 4000000 in
set_option maxRecDepth 100000 in
theorem c_X6_carryOut {l : Launch} {G : bz_G} {σ : bz_W} {a0 : Nat} {x1_ : Int32} {x2_ : Int32} {x3_ : Int32} (ka0 : bz_k G a0 = (7, 0)) {res : Int32 × bz_W} (hF : f_X6_carryOut σ a0 x1_ x2_ x3_ = some res) : bz_M l yX6_carryOut wz_X6_carryOut 4 91 G σ [.ref a0, .int x1_, .int x2_, .int x3_] (some (.int res.1)) res.2 := by
  refine bz_mk (cc := cX6_carryOut) (maxL := 5) (ret := (some .int)) (own := RX6) (by decide) rfl rfl (Nat.le_of_ble_eq_true rfl) ?_
  intro p e s m args below meth c ls C hlocks hr h hl
  have hx := C.1
  have hb := C.2.1
  have hts := C.2.2.2.2.1
  have hl : lv_has ls 5 [(0, .ref a0), (1, .int x1_), (2, .int x2_), (3, .int x3_)] := hl
  obtain ⟨H, eH⟩ : ∃ y, y = s.heap := ⟨_, rfl⟩
  obtain ⟨locs, el⟩ : ∃ y : List Loc, y = [] := ⟨_, rfl⟩
  rw [← el, ← eH] at h ⊢
  unfold f_X6_carryOut at hF
  refine lv_iload_n hx hb dX6_carryOut_0 rfl (lv_at hl 1 rfl) ?_
  refine lv_iconst (v := 4) hx hb dX6_carryOut_1 (by decide) ?_
  refine lv_icmp_ne (tgt := 24) hx hb dX6_carryOut_2 (by decide) (fun c1 => ?_) (fun c1 => ?_)
  · have hF := it_f hF c1
    refine lv_aload_n hx hb dX6_carryOut_24 rfl (lv_at hl 0 rfl) ?_
    refine gf_6_0 C h ka0 iz_X6 (List.mem_cons_of_mem _ wd_1_12) dX6_carryOut_25 (fun k2 => ?_)
    refine lv_iload_n hx hb dX6_carryOut_28 rfl (lv_at hl 2 rfl) ?_
    obtain ⟨r3, σ4, qr3, hF⟩ := bd_u hF
    have h0 := h
    refine bz_callV (rest := []) (st1 := [bz_rv r3]) C h (As := [.int x2_]) (o := some (bz_rv r3)) (τ := σ4) (c_X3_find (l := l) k2 (res := (r3, σ4)) qr3) k2 (by decide) (ci := 3) rfl (cwV 1 hts (bz_gV wd_8_11 wd_8_12 wd_8_13 wd_1_11 wd_8_14) rfl rfl rfl (by decide +kernel) ⟨Nat.le_of_ble_eq_true rfl, Nat.le_of_ble_eq_true rfl⟩) rfl hl.1 rfl (by decide) ⟨Nat.le_of_ble_eq_true rfl, Nat.le_of_ble_eq_true rfl⟩ dX6_carryOut_29 rfl (fun H locs h => ?_)
    by_cases zr3 : r3 = 0
    · have hF := it_t hF zr3
      rw [show bz_rv r3 = .null by rw [zr3]; rfl]
      refine lv_astoreN (lv' := [(4, .null), (0, .ref a0), (1, .int x1_), (2, .int x2_), (3, .int x3_)]) hx hb dX6_carryOut_32 hl (by decide) rfl (fun ls hl => ?_)
      refine lv_aloadN hx hb dX6_carryOut_34 (lv_at hl 0 rfl) ?_
      refine lv_ifnonnullN hx hb dX6_carryOut_36 ?_
      refine lv_iconst (v := (-1)) hx hb dX6_carryOut_39 (by decide) ?_
      exact bz_iret C h hlocks hr hF dX6_carryOut_40
    · have hF := it_f hF zr3
      have kr3 := kd_X3_find k2 h0.2.1 qr3 zr3
      rw [bz_rv0 C.2.2.2.2.2.1.2.2.2 kr3 (by decide)]
      refine lv_astore (lv' := [(4, .ref r3), (0, .ref a0), (1, .int x1_), (2, .int x2_), (3, .int x3_)]) hx hb dX6_carryOut_32 hl (by decide) rfl (fun ls hl => ?_)
      refine lv_aload hx hb dX6_carryOut_34 (lv_at hl 0 rfl) ?_
      refine lv_ifnonnull (tgt := 41) hx hb dX6_carryOut_36 (by decide) ?_
      refine lv_iload_n hx hb dX6_carryOut_41 rfl (lv_at hl 2 rfl) ?_
      by_cases c5 : x1_ = 0
      · have hF := it_t hF c5
        refine lv_tableIn (tgt := 68) hx hb dX6_carryOut_42 (by rw [c5]; decide) (by rw [c5]; decide) (by rw [c5]; rfl) (by decide) ?_
        refine lv_aload hx hb dX6_carryOut_68 (lv_at hl 0 rfl) ?_
        refine lv_aload_n hx hb dX6_carryOut_70 rfl (lv_at hl 1 rfl) ?_
        refine gf_6_0 C h ka0 iz_X6 (List.mem_cons_of_mem _ wd_1_12) dX6_carryOut_71 (fun k6 => ?_)
        refine gf_3_4 C h k6 iz_X3 (List.mem_cons_of_mem _ wd_6_15) dX6_carryOut_74 ?_
        refine pf_2_12 C h kr3 iz_X2 (List.mem_cons_of_mem _ wd_9_14) dX6_carryOut_77 (fun H locs h => ?_)
        obtain ⟨σ7, eσ7⟩ : ∃ y : bz_W, y = bz_wi σ4 r3 12 (σ4.1 (σ4.2 a0 0) 4) := ⟨_, rfl⟩
        rw [← eσ7] at h
        have hF := lt_u hF σ7 eσ7
        refine lv_aload hx hb dX6_carryOut_80 (lv_at hl 0 rfl) ?_
        refine lv_iconst (v := 1) hx hb dX6_carryOut_82 (by decide) ?_
        obtain ⟨r8, σ9, qr8, hF⟩ := bd_u hF
        refine bz_callV (rest := []) (st1 := [.int r8]) C h (As := [.int 1]) (o := some (.int r8)) (τ := σ9) (c_X2_change (l := l) kr3 (res := (r8, σ9)) qr8) kr3 (by decide) (ci := 2) rfl (cwV 1 hts (bz_gV wd_9_15 wd_9_16 wd_9_17 wd_2_11 wd_9_18) rfl rfl rfl (by decide +kernel) ⟨Nat.le_of_ble_eq_true rfl, Nat.le_of_ble_eq_true rfl⟩) rfl hl.1 rfl (by decide) ⟨Nat.le_of_ble_eq_true rfl, Nat.le_of_ble_eq_true rfl⟩ dX6_carryOut_83 rfl (fun H locs h => ?_)
        exact bz_iret C h hlocks hr hF dX6_carryOut_86
      have hF := it_f hF c5
      by_cases c10 : x1_ = 1
      · have hF := it_t hF c10
        refine lv_tableIn (tgt := 87) hx hb dX6_carryOut_42 (by rw [c10]; decide) (by rw [c10]; decide) (by rw [c10]; rfl) (by decide) ?_
        refine lv_aload_n hx hb dX6_carryOut_87 rfl (lv_at hl 1 rfl) ?_
        refine gf_6_0 C h ka0 iz_X6 (List.mem_cons_of_mem _ wd_1_12) dX6_carryOut_88 (fun k11 => ?_)
        refine lv_aload hx hb dX6_carryOut_91 (lv_at hl 0 rfl) ?_
        refine lv_iconst (v := 3) hx hb dX6_carryOut_93 (by decide) ?_
        obtain ⟨r12, σ13, qr12, hF⟩ := bd_u hF
        refine bz_callV (rest := []) (st1 := []) C h (As := [.ref r3, .int 3]) (o := none) (τ := σ13) (c_X3_note (l := l) k11 kr3 (res := (r12, σ13)) qr12) k11 (by decide) (ci := 3) rfl (cwV 2 hts (bz_gV wd_9_19 wd_9_20 wd_9_21 wd_1_11 wd_9_22) rfl rfl rfl (by decide +kernel) ⟨Nat.le_of_ble_eq_true rfl, Nat.le_of_ble_eq_true rfl⟩) rfl hl.1 rfl (by decide) ⟨Nat.le_of_ble_eq_true rfl, Nat.le_of_ble_eq_true rfl⟩ dX6_carryOut_94 rfl (fun H locs h => ?_)
        refine lv_aload hx hb dX6_carryOut_97 (lv_at hl 0 rfl) ?_
        refine lv_iconst (v := 0) hx hb dX6_carryOut_99 (by decide) ?_
        obtain ⟨r14, σ15, qr14, hF⟩ := bd_u hF
        refine bz_callV (rest := []) (st1 := [.int r14]) C h (As := [.int 0]) (o := some (.int r14)) (τ := σ15) (c_X2_change (l := l) kr3 (res := (r14, σ15)) qr14) kr3 (by decide) (ci := 2) rfl (cwV 1 hts (bz_gV wd_9_15 wd_9_16 wd_9_17 wd_2_11 wd_9_18) rfl rfl rfl (by decide +kernel) ⟨Nat.le_of_ble_eq_true rfl, Nat.le_of_ble_eq_true rfl⟩) rfl hl.1 rfl (by decide) ⟨Nat.le_of_ble_eq_true rfl, Nat.le_of_ble_eq_true rfl⟩ dX6_carryOut_100 rfl (fun H locs h => ?_)
        exact bz_iret C h hlocks hr hF dX6_carryOut_103
      have hF := it_f hF c10
      by_cases c16 : x1_ = 2
      · have hF := it_t hF c16
        refine lv_tableIn (tgt := 104) hx hb dX6_carryOut_42 (by rw [c16]; decide) (by rw [c16]; decide) (by rw [c16]; rfl) (by decide) ?_
        refine lv_aload_n hx hb dX6_carryOut_104 rfl (lv_at hl 1 rfl) ?_
        refine lv_aload hx hb dX6_carryOut_105 (lv_at hl 0 rfl) ?_
        refine lv_iload_n hx hb dX6_carryOut_107 rfl (lv_at hl 4 rfl) ?_
        obtain ⟨r17, σ18, qr17, hF⟩ := bd_u hF
        refine bz_callV (rest := []) (st1 := [.int r17]) C h (As := [.ref r3, .int x3_]) (o := some (.int r17)) (τ := σ18) (c_X6_carryOutLoss (l := l) ka0 kr3 (res := (r17, σ18)) qr17) ka0 (by decide) (ci := 6) rfl (cwV 2 hts (bz_gV wd_10_8 wd_10_9 wd_10_10 wd_1_2 wd_10_11) rfl rfl rfl (by decide +kernel) ⟨Nat.le_of_ble_eq_true rfl, Nat.le_of_ble_eq_true rfl⟩) rfl hl.1 rfl (by decide) ⟨Nat.le_of_ble_eq_true rfl, Nat.le_of_ble_eq_true rfl⟩ dX6_carryOut_108 rfl (fun H locs h => ?_)
        exact bz_iret C h hlocks hr hF dX6_carryOut_111
      have hF := it_f hF c16
      refine lv_tableOut (tgt := 112) hx hb dX6_carryOut_42 (bz_out3 c5 c10 c16) (by decide) ?_
      refine lv_aload_n hx hb dX6_carryOut_112 rfl (lv_at hl 1 rfl) ?_
      refine gf_6_0 C h ka0 iz_X6 (List.mem_cons_of_mem _ wd_1_12) dX6_carryOut_113 (fun k19 => ?_)
      refine lv_aload hx hb dX6_carryOut_116 (lv_at hl 0 rfl) ?_
      refine lv_bipush (v := 6) hx hb dX6_carryOut_118 (by decide) ?_
      obtain ⟨r20, σ21, qr20, hF⟩ := bd_u hF
      refine bz_callV (rest := []) (st1 := []) C h (As := [.ref r3, .int 6]) (o := none) (τ := σ21) (c_X3_note (l := l) k19 kr3 (res := (r20, σ21)) qr20) k19 (by decide) (ci := 3) rfl (cwV 2 hts (bz_gV wd_9_19 wd_9_20 wd_9_21 wd_1_11 wd_9_22) rfl rfl rfl (by decide +kernel) ⟨Nat.le_of_ble_eq_true rfl, Nat.le_of_ble_eq_true rfl⟩) rfl hl.1 rfl (by decide) ⟨Nat.le_of_ble_eq_true rfl, Nat.le_of_ble_eq_true rfl⟩ dX6_carryOut_120 rfl (fun H locs h => ?_)
      refine lv_aload hx hb dX6_carryOut_123 (lv_at hl 0 rfl) ?_
      refine lv_iconst (v := 0) hx hb dX6_carryOut_125 (by decide) ?_
      obtain ⟨r22, σ23, qr22, hF⟩ := bd_u hF
      refine bz_callV (rest := []) (st1 := [.int r22]) C h (As := [.int 0]) (o := some (.int r22)) (τ := σ23) (c_X2_change (l := l) kr3 (res := (r22, σ23)) qr22) kr3 (by decide) (ci := 2) rfl (cwV 1 hts (bz_gV wd_9_15 wd_9_16 wd_9_17 wd_2_11 wd_9_18) rfl rfl rfl (by decide +kernel) ⟨Nat.le_of_ble_eq_true rfl, Nat.le_of_ble_eq_true rfl⟩) rfl hl.1 rfl (by decide) ⟨Nat.le_of_ble_eq_true rfl, Nat.le_of_ble_eq_true rfl⟩ dX6_carryOut_126 rfl (fun H locs h => ?_)
      refine lv_pop hx hb dX6_carryOut_129 rfl ?_
      refine lv_aload hx hb dX6_carryOut_130 (lv_at hl 0 rfl) ?_
      refine gf_2_9 C h kr3 iz_X2 (List.mem_cons_of_mem _ wd_9_8) dX6_carryOut_132 ?_
      exact bz_iret C h hlocks hr hF dX6_carryOut_135
  · have hF := it_t hF c1
    refine lv_aload_n hx hb dX6_carryOut_5 rfl (lv_at hl 0 rfl) ?_
    refine gf_6_0 C h ka0 iz_X6 (List.mem_cons_of_mem _ wd_1_12) dX6_carryOut_6 (fun k24 => ?_)
    refine lv_iload_n hx hb dX6_carryOut_9 rfl (lv_at hl 2 rfl) ?_
    refine lv_iconst (v := 1) hx hb dX6_carryOut_10 (by decide) ?_
    refine lv_icmp_ne (tgt := 18) hx hb dX6_carryOut_11 (by decide) (fun c25 => ?_) (fun c25 => ?_)
    · have hF := it_f hF c25
      refine lv_iconst (v := 0) hx hb dX6_carryOut_18 (by decide) ?_
      refine pf_3_6 C h k24 iz_X3 (List.mem_cons_of_mem _ wd_8_10) (by decide) dX6_carryOut_19 (fun H locs h => ?_)
      obtain ⟨σ26, eσ26⟩ : ∃ y : bz_W, y = bz_wi σ (σ.2 a0 0) 6 0 := ⟨_, rfl⟩
      rw [← eσ26] at h
      have hF := lt_u hF σ26 eσ26
      refine lv_iload_n hx hb dX6_carryOut_22 rfl (lv_at hl 2 rfl) ?_
      exact bz_iret C h hlocks hr hF dX6_carryOut_23
    · have hF := it_t hF c25
      refine lv_iconst (v := 1) hx hb dX6_carryOut_14 (by decide) ?_
      refine lv_goto (tgt := 19) hx hb dX6_carryOut_15 (by decide) ?_
      refine pf_3_6 C h k24 iz_X3 (List.mem_cons_of_mem _ wd_8_10) (by decide) dX6_carryOut_19 (fun H locs h => ?_)
      obtain ⟨σ27, eσ27⟩ : ∃ y : bz_W, y = bz_wi σ (σ.2 a0 0) 6 1 := ⟨_, rfl⟩
      rw [← eσ27] at h
      have hF := lt_u hF σ27 eσ27
      refine lv_iload_n hx hb dX6_carryOut_22 rfl (lv_at hl 2 rfl) ?_
      exact bz_iret C h hlocks hr hF dX6_carryOut_23
set_option maxHeartbeats 4000000 in
set_option maxRecDepth 100000 in
theorem c_X6_callOrder {l : Launch} {G : bz_G} {σ : bz_W} {a0 : Nat} {x1_ : Int32} {x2_ : Int32} {x3_ : Int32} (ka0 : bz_k G a0 = (7, 0)) {res : Int32 × bz_W} (hF : f_X6_callOrder σ a0 x1_ x2_ x3_ = some res) : bz_M l yX6_callOrder wz_X6_callOrder 5 115 G σ [.ref a0, .int x1_, .int x2_, .int x3_] (some (.int res.1)) res.2 := by
  refine bz_mk (cc := cX6_callOrder) (maxL := 5) (ret := (some .int)) (own := RX6) (by decide) rfl rfl (Nat.le_of_ble_eq_true rfl) ?_
  intro p e s m args below meth c ls C hlocks hr h hl
  have hx := C.1
  have hb := C.2.1
  have hts := C.2.2.2.2.1
  have hl : lv_has ls 5 [(0, .ref a0), (1, .int x1_), (2, .int x2_), (3, .int x3_)] := hl
  obtain ⟨H, eH⟩ : ∃ y, y = s.heap := ⟨_, rfl⟩
  obtain ⟨locs, el⟩ : ∃ y : List Loc, y = [] := ⟨_, rfl⟩
  rw [← el, ← eH] at h ⊢
  unfold f_X6_callOrder at hF
  refine lv_aload_n hx hb dX6_callOrder_0 rfl (lv_at hl 0 rfl) ?_
  refine lv_iload_n hx hb dX6_callOrder_1 rfl (lv_at hl 1 rfl) ?_
  refine lv_iload_n hx hb dX6_callOrder_2 rfl (lv_at hl 2 rfl) ?_
  refine lv_iload_n hx hb dX6_callOrder_3 rfl (lv_at hl 3 rfl) ?_
  obtain ⟨r1, σ2, qr1, hF⟩ := bd_u hF
  refine bz_callV (rest := []) (st1 := [.int r1]) C h (As := [.int x1_, .int x2_, .int x3_]) (o := some (.int r1)) (τ := σ2) (c_X6_checkOrder (l := l) ka0 (res := (r1, σ2)) qr1) ka0 (by decide) (ci := 6) rfl (cwV 3 hts (bz_gV wd_8_6 wd_8_7 wd_8_8 wd_1_2 wd_8_9) rfl rfl rfl (by decide +kernel) ⟨Nat.le_of_ble_eq_true rfl, Nat.le_of_ble_eq_true rfl⟩) rfl hl.1 rfl (by decide) ⟨Nat.le_of_ble_eq_true rfl, Nat.le_of_ble_eq_true rfl⟩ dX6_callOrder_4 rfl (fun H locs h => ?_)
  refine lv_istore (lv' := [(4, .int r1), (0, .ref a0), (1, .int x1_), (2, .int x2_), (3, .int x3_)]) hx hb dX6_callOrder_7 hl (by decide) rfl (fun ls hl => ?_)
  refine lv_iload hx hb dX6_callOrder_9 (lv_at hl 0 rfl) ?_
  refine lv_if_eq (tgt := 17) hx hb dX6_callOrder_11 (by decide) (fun c3 => ?_) (fun c3 => ?_)
  · have hF := it_t hF c3
    refine lv_aload_n hx hb dX6_callOrder_17 rfl (lv_at hl 1 rfl) ?_
    refine gf_6_1 C h ka0 iz_X6 (List.mem_cons_of_mem _ wd_1_16) dX6_callOrder_18 (fun k4 => ?_)
    refine lv_aload_n hx hb dX6_callOrder_21 rfl (lv_at hl 1 rfl) ?_
    refine gf_6_0 C h ka0 iz_X6 (List.mem_cons_of_mem _ wd_1_12) dX6_callOrder_22 (fun k5 => ?_)
    obtain ⟨r6, σ7, qr6, hF⟩ := bd_u hF
    refine bz_callV (rest := []) (st1 := []) C h (As := [.ref (σ2.2 a0 0)]) (o := none) (τ := σ7) (c_X1_record (l := l) k4 k5 (res := (r6, σ7)) qr6) k4 (by decide) (ci := 1) rfl (cwV 1 hts (bz_gV wd_6_16 wd_6_17 wd_6_18 wd_1_15 wd_6_19) rfl rfl rfl (by decide +kernel) ⟨Nat.le_of_ble_eq_true rfl, Nat.le_of_ble_eq_true rfl⟩) rfl hl.1 rfl (by decide) ⟨Nat.le_of_ble_eq_true rfl, Nat.le_of_ble_eq_true rfl⟩ dX6_callOrder_25 rfl (fun H locs h => ?_)
    refine lv_aload_n hx hb dX6_callOrder_28 rfl (lv_at hl 1 rfl) ?_
    refine lv_iload_n hx hb dX6_callOrder_29 rfl (lv_at hl 2 rfl) ?_
    refine lv_iload_n hx hb dX6_callOrder_30 rfl (lv_at hl 3 rfl) ?_
    refine lv_iload_n hx hb dX6_callOrder_31 rfl (lv_at hl 4 rfl) ?_
    obtain ⟨r8, σ9, qr8, hF⟩ := bd_u hF
    refine bz_callV (rest := []) (st1 := [.int r8]) C h (As := [.int x1_, .int x2_, .int x3_]) (o := some (.int r8)) (τ := σ9) (c_X6_carryOut (l := l) ka0 (res := (r8, σ9)) qr8) ka0 (by decide) (ci := 6) rfl (cwV 3 hts (bz_gV wd_9_10 wd_9_11 wd_9_12 wd_1_2 wd_9_13) rfl rfl rfl (by decide +kernel) ⟨Nat.le_of_ble_eq_true rfl, Nat.le_of_ble_eq_true rfl⟩) rfl hl.1 rfl (by decide) ⟨Nat.le_of_ble_eq_true rfl, Nat.le_of_ble_eq_true rfl⟩ dX6_callOrder_32 rfl (fun H locs h => ?_)
    exact bz_iret C h hlocks hr hF dX6_callOrder_35
  · have hF := it_f hF c3
    refine lv_iload hx hb dX6_callOrder_14 (lv_at hl 0 rfl) ?_
    exact bz_iret C h hlocks hr hF dX6_callOrder_16
set_option maxHeartbeats 4000000 in
set_option maxRecDepth 100000 in
theorem c_X6_setFan {l : Launch} {G : bz_G} {σ : bz_W} {a0 : Nat} {x1_ : Int32} (ka0 : bz_k G a0 = (7, 0)) {res : Int32 × bz_W} (hF : f_X6_setFan σ a0 x1_ = some res) : bz_M l yX6_setFan wz_X6_setFan 6 139 G σ [.ref a0, .int x1_] (some (.int res.1)) res.2 := by
  refine bz_mk (cc := cX6_setFan) (maxL := 2) (ret := (some .int)) (own := RX6) (by decide) rfl rfl (Nat.le_of_ble_eq_true rfl) ?_
  intro p e s m args below meth c ls C hlocks hr h hl
  have hx := C.1
  have hb := C.2.1
  have hts := C.2.2.2.2.1
  have hl : lv_has ls 2 [(0, .ref a0), (1, .int x1_)] := hl
  obtain ⟨H, eH⟩ : ∃ y, y = s.heap := ⟨_, rfl⟩
  obtain ⟨locs, el⟩ : ∃ y : List Loc, y = [] := ⟨_, rfl⟩
  rw [← el, ← eH] at h ⊢
  unfold f_X6_setFan at hF
  refine lv_aload_n hx hb dX6_setFan_0 rfl (lv_at hl 0 rfl) ?_
  refine lv_iconst (v := 4) hx hb dX6_setFan_1 (by decide) ?_
  refine lv_iload_n hx hb dX6_setFan_2 rfl (lv_at hl 1 rfl) ?_
  refine lv_if_eq (tgt := 10) hx hb dX6_setFan_3 (by decide) (fun c1 => ?_) (fun c1 => ?_)
  · have hF := it_t hF c1
    refine lv_iconst (v := 0) hx hb dX6_setFan_10 (by decide) ?_
    refine lv_bipush (v := (-4)) hx hb dX6_setFan_11 (by decide) ?_
    obtain ⟨r2, σ3, qr2, hF⟩ := bd_u hF
    refine bz_callV (rest := []) (st1 := [.int r2]) C h (As := [.int 4, .int 0, .int (-4)]) (o := some (.int r2)) (τ := σ3) (c_X6_callOrder (l := l) ka0 (res := (r2, σ3)) qr2) ka0 (by decide) (ci := 6) rfl (cwV 3 hts (bz_gV wd_8_2 wd_8_3 wd_8_4 wd_1_2 wd_8_5) rfl rfl rfl (by decide +kernel) ⟨Nat.le_of_ble_eq_true rfl, Nat.le_of_ble_eq_true rfl⟩) rfl hl.1 rfl (by decide) ⟨Nat.le_of_ble_eq_true rfl, Nat.le_of_ble_eq_true rfl⟩ dX6_setFan_13 rfl (fun H locs h => ?_)
    exact bz_iret C h hlocks hr hF dX6_setFan_16
  · have hF := it_f hF c1
    refine lv_iconst (v := 1) hx hb dX6_setFan_6 (by decide) ?_
    refine lv_goto (tgt := 11) hx hb dX6_setFan_7 (by decide) ?_
    refine lv_bipush (v := (-4)) hx hb dX6_setFan_11 (by decide) ?_
    obtain ⟨r4, σ5, qr4, hF⟩ := bd_u hF
    refine bz_callV (rest := []) (st1 := [.int r4]) C h (As := [.int 4, .int 1, .int (-4)]) (o := some (.int r4)) (τ := σ5) (c_X6_callOrder (l := l) ka0 (res := (r4, σ5)) qr4) ka0 (by decide) (ci := 6) rfl (cwV 3 hts (bz_gV wd_8_2 wd_8_3 wd_8_4 wd_1_2 wd_8_5) rfl rfl rfl (by decide +kernel) ⟨Nat.le_of_ble_eq_true rfl, Nat.le_of_ble_eq_true rfl⟩) rfl hl.1 rfl (by decide) ⟨Nat.le_of_ble_eq_true rfl, Nat.le_of_ble_eq_true rfl⟩ dX6_setFan_13 rfl (fun H locs h => ?_)
    exact bz_iret C h hlocks hr hF dX6_setFan_16
set_option maxHeartbeats 4000000 in
set_option maxRecDepth 100000 in
theorem L_X6_fillLine_L33 {p : Program} {l : Launch} {e : Env} {s : State} {m : MethodId} {args : Array Value} {below : List Frame} {meth : Method} {c : Code} {G : bz_G} (C : bz_C p s m c args cX6_fillLine 4 RX6 wz_X6_fillLine G) (hlocks : meth.locks = false) (hr : meth.sig.returnType = (some .int)) {a0 : Nat} {a1 : Int32} {a2 : Int32} (ka0 : bz_k G a0 = (7, 0)) {k : Int32 → bz_W → Option (Int32 × bz_W)} {res : Int32 × bz_W} : ∀ (n : Nat) (v3 : Int32) (σ : bz_W) (H : Heap) (locs : List Loc) (ls : Array Slot), f_X6_fillLine_L33 a0 a1 a2 k n v3 σ = some res → bz_H G s σ H locs → lv_has ls 4 [(0, .ref a0), (1, .int a1), (2, .int a2), (3, .int v3)] → (∀ (w3 : Int32) (σ : bz_W) (H : Heap) (locs : List Loc) (ls : Array Slot), k w3 σ = some res → bz_H G s σ H locs → lv_has ls 4 [(0, .ref a0), (1, .int a1), (2, .int a2), (3, .int w3)] → W p l e ({ frames := 2, cells := 0, slots := 0, locals := 47 } : Room) s m args below meth c H locs 0 0 (MQ below (bz_Qc G (some (.int res.1)) res.2) args s 0 0 (bz_A G)) (F0 m 76 ls [])) → W p l e ({ frames := 2, cells := 0, slots := 0, locals := 47 } : Room) s m args below meth c H locs 0 0 (MQ below (bz_Qc G (some (.int res.1)) res.2) args s 0 0 (bz_A G)) (F0 m 33 ls []) := by
  have hx := C.1
  have hb := C.2.1
  have hts := C.2.2.2.2.1
  intro n
  induction n with
  | zero =>
    intro v3 σ H locs ls hF
    exact absurd hF (by simp [f_X6_fillLine_L33])
  | succ n ih =>
    intro v3 σ H locs ls hF h hl hk
    rw [f_X6_fillLine_L33] at hF
    refine lv_iload_n hx hb dX6_fillLine_33 rfl (lv_at hl 3 rfl) ?_
    refine lv_if_le (tgt := 76) hx hb dX6_fillLine_34 (by decide) (fun c12 => ?_) (fun c12 => ?_)
    · have hF := it_t hF c12
      exact hk _ _ H locs ls hF h (lv_sub hl [0, 1, 2, 3] rfl)
    · have hF := it_f hF c12
      refine lv_aload_n hx hb dX6_fillLine_37 rfl (lv_at hl 0 rfl) ?_
      refine gf_6_0 C h ka0 iz_X6 (List.mem_cons_of_mem _ wd_1_12) dX6_fillLine_38 (fun k13 => ?_)
      refine lv_iload_n hx hb dX6_fillLine_41 rfl (lv_at hl 2 rfl) ?_
      refine lv_aload_n hx hb dX6_fillLine_42 rfl (lv_at hl 0 rfl) ?_
      refine gf_6_6 C h ka0 iz_X6 (List.mem_cons_of_mem _ wd_2_3) dX6_fillLine_43 (fun k14 => ?_)
      refine lv_iload_n hx hb dX6_fillLine_46 rfl (lv_at hl 3 rfl) ?_
      refine lv_iconst (v := 1) hx hb dX6_fillLine_47 (by decide) ?_
      refine lv_isub hx hb dX6_fillLine_48 ?_
      obtain ⟨c15, hF⟩ := ck_u hF
      refine bz_iald C h k14 c15 (kx := ((v3 - 1) : Int32).toNatClampNeg) rfl dX6_fillLine_49 ?_
      obtain ⟨r16, σ17, qr16, hF⟩ := bd_u hF
      refine bz_callV (rest := []) (st1 := [.int r16]) C h (As := [.int a2, .int (σ.1 (σ.2 a0 6) ((v3 - 1) : Int32).toNatClampNeg)]) (o := some (.int r16)) (τ := σ17) (c_X3_isAhead (l := l) k13 (res := (r16, σ17)) qr16) k13 (by decide) (ci := 3) rfl (cwV 2 hts (bz_gV wd_7_12 wd_7_13 wd_7_14 wd_1_11 wd_7_15) rfl rfl rfl (by decide +kernel) ⟨Nat.le_of_ble_eq_true rfl, Nat.le_of_ble_eq_true rfl⟩) rfl hl.1 rfl (by decide) ⟨Nat.le_of_ble_eq_true rfl, Nat.le_of_ble_eq_true rfl⟩ dX6_fillLine_50 rfl (fun H locs h => ?_)
      refine lv_if_eq (tgt := 76) hx hb dX6_fillLine_53 (by decide) (fun c18 => ?_) (fun c18 => ?_)
      · have hF := it_t hF c18
        exact hk _ _ H locs ls hF h (lv_sub hl [0, 1, 2, 3] rfl)
      · have hF := it_f hF c18
        refine lv_aload_n hx hb dX6_fillLine_56 rfl (lv_at hl 0 rfl) ?_
        refine gf_6_6 C h ka0 iz_X6 (List.mem_cons_of_mem _ wd_2_3) dX6_fillLine_57 (fun k19 => ?_)
        refine lv_iload_n hx hb dX6_fillLine_60 rfl (lv_at hl 3 rfl) ?_
        refine lv_aload_n hx hb dX6_fillLine_61 rfl (lv_at hl 0 rfl) ?_
        refine gf_6_6 C h ka0 iz_X6 (List.mem_cons_of_mem _ wd_2_3) dX6_fillLine_62 (fun k20 => ?_)
        refine lv_iload_n hx hb dX6_fillLine_65 rfl (lv_at hl 3 rfl) ?_
        refine lv_iconst (v := 1) hx hb dX6_fillLine_66 (by decide) ?_
        refine lv_isub hx hb dX6_fillLine_67 ?_
        obtain ⟨c21, hF⟩ := ck_u hF
        refine bz_iald C h k20 c21 (kx := ((v3 - 1) : Int32).toNatClampNeg) rfl dX6_fillLine_68 ?_
        obtain ⟨c22, hF⟩ := ck_u hF
        refine bz_iast C h k19 c22 (kx := v3.toNatClampNeg) rfl dX6_fillLine_69 (fun H locs h => ?_)
        obtain ⟨σ23, eσ23⟩ : ∃ y : bz_W, y = bz_wi σ17 (σ17.2 a0 6) v3.toNatClampNeg (σ17.1 (σ17.2 a0 6) ((v3 - 1) : Int32).toNatClampNeg) := ⟨_, rfl⟩
        rw [← eσ23] at h
        have hF := lt_u hF σ23 eσ23
        obtain ⟨x24, ex24⟩ : ∃ y : Int32, y = v3 + (-1) := ⟨_, rfl⟩
        have hF := lt_u hF x24 ex24
        refine lv_iinc (v := x24) (lv' := [(3, .int x24), (0, .ref a0), (1, .int a1), (2, .int a2)]) hx hb dX6_fillLine_70 hl (k := 3) rfl (by rw [ex24]; rfl) (by decide) rfl (fun ls hl => ?_)
        refine lv_goto (tgt := 33) hx hb dX6_fillLine_73 (by decide) ?_
        exact ih _ _ H locs ls hF h (lv_sub hl [1, 2, 3, 0] rfl) hk
set_option maxHeartbeats 4000000 in
set_option maxRecDepth 100000 in
theorem L_X6_fillLine_L4 {p : Program} {l : Launch} {e : Env} {s : State} {m : MethodId} {args : Array Value} {below : List Frame} {meth : Method} {c : Code} {G : bz_G} (C : bz_C p s m c args cX6_fillLine 4 RX6 wz_X6_fillLine G) (hlocks : meth.locks = false) (hr : meth.sig.returnType = (some .int)) {a0 : Nat} (ka0 : bz_k G a0 = (7, 0)) {k : Int32 → bz_W → Option (Int32 × bz_W)} {res : Int32 × bz_W} : ∀ (n : Nat) (v1 : Int32) (v2 : Int32) (σ : bz_W) (H : Heap) (locs : List Loc) (ls : Array Slot), f_X6_fillLine_L4 a0 k n v1 v2 σ = some res → bz_H G s σ H locs → lv_has ls 4 [(0, .ref a0), (1, .int v1), (2, .int v2)] → (∀ (w1 : Int32) (σ : bz_W) (H : Heap) (locs : List Loc) (ls : Array Slot), k w1 σ = some res → bz_H G s σ H locs → lv_has ls 4 [(1, .int w1)] → W p l e ({ frames := 2, cells := 0, slots := 0, locals := 47 } : Room) s m args below meth c H locs 0 0 (MQ below (bz_Qc G (some (.int res.1)) res.2) args s 0 0 (bz_A G)) (F0 m 92 ls [])) → W p l e ({ frames := 2, cells := 0, slots := 0, locals := 47 } : Room) s m args below meth c H locs 0 0 (MQ below (bz_Qc G (some (.int res.1)) res.2) args s 0 0 (bz_A G)) (F0 m 4 ls []) := by
  have hx := C.1
  have hb := C.2.1
  have hts := C.2.2.2.2.1
  intro n
  induction n with
  | zero =>
    intro v1 v2 σ H locs ls hF
    exact absurd hF (by simp [f_X6_fillLine_L4])
  | succ n ih =>
    intro v1 v2 σ H locs ls hF h hl hk
    rw [f_X6_fillLine_L4] at hF
    refine lv_iload_n hx hb dX6_fillLine_4 rfl (lv_at hl 2 rfl) ?_
    refine lv_aload_n hx hb dX6_fillLine_5 rfl (lv_at hl 0 rfl) ?_
    refine gf_6_0 C h ka0 iz_X6 (List.mem_cons_of_mem _ wd_1_12) dX6_fillLine_6 (fun k1 => ?_)
    refine gf_3_3 C h k1 iz_X3 (List.mem_cons_of_mem _ wd_7_9) dX6_fillLine_9 ?_
    refine lv_icmp_ge (tgt := 92) hx hb dX6_fillLine_12 (by decide) (fun c2 => ?_) (fun c2 => ?_)
    · have hF := it_t hF c2
      exact hk _ _ H locs ls hF h (lv_sub hl [1] rfl)
    · have hF := it_f hF c2
      refine lv_aload_n hx hb dX6_fillLine_15 rfl (lv_at hl 0 rfl) ?_
      refine gf_6_0 C h ka0 iz_X6 (List.mem_cons_of_mem _ wd_1_12) dX6_fillLine_16 (fun k3 => ?_)
      refine gf_3_0 C h k3 iz_X3 (List.mem_cons_of_mem _ wd_7_10) dX6_fillLine_19 (fun k4 => ?_)
      refine lv_iload_n hx hb dX6_fillLine_22 rfl (lv_at hl 2 rfl) ?_
      obtain ⟨c5, hF⟩ := ck_u hF
      refine bz_aaldm C h k4 c5 (kx := v2.toNatClampNeg) rfl dX6_fillLine_23 (fun k6 => ?_)
      refine gf_2_8 C h k6 iz_X2 (List.mem_cons_of_mem _ wd_7_11) dX6_fillLine_24 ?_
      refine lv_iconst (v := 1) hx hb dX6_fillLine_27 (by decide) ?_
      obtain ⟨j9, ej9, hF⟩ := lt_j hF
      have hj9 : ∀ (x7 : Int32) (σ8 : bz_W) (H : Heap) (locs : List Loc) (ls : Array Slot), j9 x7 σ8 = some res → bz_H G s σ8 H locs → lv_has ls 4 [(0, .ref a0), (1, .int x7), (2, .int v2)] → W p l e ({ frames := 2, cells := 0, slots := 0, locals := 47 } : Room) s m args below meth c H locs 0 0 (MQ below (bz_Qc G (some (.int res.1)) res.2) args s 0 0 (bz_A G)) (F0 m 86 ls []) := by
          intro x7 σ8 H locs ls hF h hl
          subst ej9
          obtain ⟨x10, ex10⟩ : ∃ y : Int32, y = v2 + 1 := ⟨_, rfl⟩
          have hF := lt_u hF x10 ex10
          refine lv_iinc (v := x10) (lv' := [(2, .int x10), (0, .ref a0), (1, .int x7)]) hx hb dX6_fillLine_86 hl (k := 2) rfl (by rw [ex10]; rfl) (by decide) rfl (fun ls hl => ?_)
          refine lv_goto (tgt := 4) hx hb dX6_fillLine_89 (by decide) ?_
          exact ih _ _ _ H locs ls hF h (lv_sub hl [1, 2, 0] rfl) hk
      refine lv_icmp_ne (tgt := 86) hx hb dX6_fillLine_28 (by decide) (fun c11 => ?_) (fun c11 => ?_)
      · have hF := it_f hF c11
        exact hj9 _ _ H locs ls hF h (lv_sub hl [0, 1, 2] rfl)
      · have hF := it_t hF c11
        refine lv_iload_n hx hb dX6_fillLine_31 rfl (lv_at hl 1 rfl) ?_
        refine lv_istore_n (lv' := [(3, .int v1), (0, .ref a0), (1, .int v1), (2, .int v2)]) hx hb dX6_fillLine_32 rfl hl (by decide) rfl (fun ls hl => ?_)
        refine L_X6_fillLine_L33 C hlocks hr ka0 _ _ _ H locs ls hF h (lv_sub hl [1, 2, 3, 0] rfl) ?_
        intro x25 σ26 H locs ls hF h hl
        refine lv_aload_n hx hb dX6_fillLine_76 rfl (lv_at hl 0 rfl) ?_
        refine gf_6_6 C h ka0 iz_X6 (List.mem_cons_of_mem _ wd_2_3) dX6_fillLine_77 (fun k27 => ?_)
        refine lv_iload_n hx hb dX6_fillLine_80 rfl (lv_at hl 3 rfl) ?_
        refine lv_iload_n hx hb dX6_fillLine_81 rfl (lv_at hl 2 rfl) ?_
        obtain ⟨c28, hF⟩ := ck_u hF
        refine bz_iast C h k27 c28 (kx := x25.toNatClampNeg) rfl dX6_fillLine_82 (fun H locs h => ?_)
        obtain ⟨σ29, eσ29⟩ : ∃ y : bz_W, y = bz_wi σ26 (σ26.2 a0 6) x25.toNatClampNeg v2 := ⟨_, rfl⟩
        rw [← eσ29] at h
        have hF := lt_u hF σ29 eσ29
        obtain ⟨x30, ex30⟩ : ∃ y : Int32, y = v1 + 1 := ⟨_, rfl⟩
        have hF := lt_u hF x30 ex30
        refine lv_iinc (v := x30) (lv' := [(1, .int x30), (0, .ref a0), (2, .int v2), (3, .int x25)]) hx hb dX6_fillLine_83 hl (k := 1) rfl (by rw [ex30]; rfl) (by decide) rfl (fun ls hl => ?_)
        exact hj9 _ _ H locs ls hF h (lv_sub hl [1, 0, 2] rfl)
set_option maxHeartbeats 4000000 in
set_option maxRecDepth 100000 in
theorem c_X6_fillLine {l : Launch} {G : bz_G} {σ : bz_W} {a0 : Nat} (ka0 : bz_k G a0 = (7, 0)) {res : Int32 × bz_W} (hF : f_X6_fillLine σ a0 = some res) : bz_M l yX6_fillLine wz_X6_fillLine 2 47 G σ [.ref a0] (some (.int res.1)) res.2 := by
  refine bz_mk (cc := cX6_fillLine) (maxL := 4) (ret := (some .int)) (own := RX6) (by decide) rfl rfl (Nat.le_of_ble_eq_true rfl) ?_
  intro p e s m args below meth c ls C hlocks hr h hl
  have hx := C.1
  have hb := C.2.1
  have hts := C.2.2.2.2.1
  have hl : lv_has ls 4 [(0, .ref a0)] := hl
  obtain ⟨H, eH⟩ : ∃ y, y = s.heap := ⟨_, rfl⟩
  obtain ⟨locs, el⟩ : ∃ y : List Loc, y = [] := ⟨_, rfl⟩
  rw [← el, ← eH] at h ⊢
  unfold f_X6_fillLine at hF
  refine lv_iconst (v := 0) hx hb dX6_fillLine_0 (by decide) ?_
  refine lv_istore_n (lv' := [(1, .int 0), (0, .ref a0)]) hx hb dX6_fillLine_1 rfl hl (by decide) rfl (fun ls hl => ?_)
  refine lv_iconst (v := 0) hx hb dX6_fillLine_2 (by decide) ?_
  refine lv_istore_n (lv' := [(2, .int 0), (1, .int 0), (0, .ref a0)]) hx hb dX6_fillLine_3 rfl hl (by decide) rfl (fun ls hl => ?_)
  refine L_X6_fillLine_L4 C hlocks hr ka0 _ _ _ _ H locs ls hF h (lv_sub hl [2, 1, 0] rfl) ?_
  intro x31 σ32 H locs ls hF h hl
  refine lv_iload_n hx hb dX6_fillLine_92 rfl (lv_at hl 0 rfl) ?_
  exact bz_iret C h hlocks hr hF dX6_fillLine_93
set_option maxHeartbeats 4000000 in
set_option maxRecDepth 100000 in
theorem L_X6_placeInLine_L7 {p : Program} {l : Launch} {e : Env} {s : State} {m : MethodId} {args : Array Value} {below : List Frame} {meth : Method} {c : Code} {G : bz_G} (C : bz_C p s m c args cX6_placeInLine 4 RX6 wz_X6_placeInLine G) (hlocks : meth.locks = false) (hr : meth.sig.returnType = (some .int)) {a0 : Nat} {a1 : Int32} {a2 : Int32} (ka0 : bz_k G a0 = (7, 0)) {k : bz_W → Option (Int32 × bz_W)} {res : Int32 × bz_W} : ∀ (n : Nat) (v3 : Int32) (σ : bz_W) (H : Heap) (locs : List Loc) (ls : Array Slot), f_X6_placeInLine_L7 a0 a1 a2 k n v3 σ = some res → bz_H G s σ H locs → lv_has ls 4 [(0, .ref a0), (1, .int a1), (2, .int a2), (3, .int v3)] → (∀ (σ : bz_W) (H : Heap) (locs : List Loc) (ls : Array Slot), k σ = some res → bz_H G s σ H locs → lv_has ls 4 [] → W p l e ({ frames := 3, cells := 0, slots := 0, locals := 70 } : Room) s m args below meth c H locs 0 0 (MQ below (bz_Qc G (some (.int res.1)) res.2) args s 0 0 (bz_A G)) (F0 m 30 ls [])) → W p l e ({ frames := 3, cells := 0, slots := 0, locals := 70 } : Room) s m args below meth c H locs 0 0 (MQ below (bz_Qc G (some (.int res.1)) res.2) args s 0 0 (bz_A G)) (F0 m 7 ls []) := by
  have hx := C.1
  have hb := C.2.1
  have hts := C.2.2.2.2.1
  intro n
  induction n with
  | zero =>
    intro v3 σ H locs ls hF
    exact absurd hF (by simp [f_X6_placeInLine_L7])
  | succ n ih =>
    intro v3 σ H locs ls hF h hl hk
    rw [f_X6_placeInLine_L7] at hF
    refine lv_iload_n hx hb dX6_placeInLine_7 rfl (lv_at hl 3 rfl) ?_
    refine lv_iload_n hx hb dX6_placeInLine_8 rfl (lv_at hl 2 rfl) ?_
    refine lv_icmp_ge (tgt := 30) hx hb dX6_placeInLine_9 (by decide) (fun c3 => ?_) (fun c3 => ?_)
    · have hF := it_t hF c3
      exact hk _ H locs ls hF h (lv_sub hl [] rfl)
    · have hF := it_f hF c3
      refine lv_aload_n hx hb dX6_placeInLine_12 rfl (lv_at hl 0 rfl) ?_
      refine gf_6_6 C h ka0 iz_X6 (List.mem_cons_of_mem _ wd_2_3) dX6_placeInLine_13 (fun k4 => ?_)
      refine lv_iload_n hx hb dX6_placeInLine_16 rfl (lv_at hl 3 rfl) ?_
      obtain ⟨c5, hF⟩ := ck_u hF
      refine bz_iald C h k4 c5 (kx := v3.toNatClampNeg) rfl dX6_placeInLine_17 ?_
      refine lv_iload_n hx hb dX6_placeInLine_18 rfl (lv_at hl 1 rfl) ?_
      refine lv_icmp_ne (tgt := 24) hx hb dX6_placeInLine_19 (by decide) (fun c6 => ?_) (fun c6 => ?_)
      · have hF := it_f hF c6
        obtain ⟨x7, ex7⟩ : ∃ y : Int32, y = v3 + 1 := ⟨_, rfl⟩
        have hF := lt_u hF x7 ex7
        refine lv_iinc (v := x7) (lv' := [(3, .int x7), (0, .ref a0), (1, .int a1), (2, .int a2)]) hx hb dX6_placeInLine_24 hl (k := 3) rfl (by rw [ex7]; rfl) (by decide) rfl (fun ls hl => ?_)
        refine lv_goto (tgt := 7) hx hb dX6_placeInLine_27 (by decide) ?_
        exact ih _ _ H locs ls hF h (lv_sub hl [1, 2, 3, 0] rfl) hk
      · have hF := it_t hF c6
        refine lv_iload_n hx hb dX6_placeInLine_22 rfl (lv_at hl 3 rfl) ?_
        exact bz_iret C h hlocks hr hF dX6_placeInLine_23
set_option maxHeartbeats 4000000 in
set_option maxRecDepth 100000 in
theorem c_X6_placeInLine {l : Launch} {G : bz_G} {σ : bz_W} {a0 : Nat} {x1_ : Int32} (ka0 : bz_k G a0 = (7, 0)) {res : Int32 × bz_W} (hF : f_X6_placeInLine σ a0 x1_ = some res) : bz_M l yX6_placeInLine wz_X6_placeInLine 3 70 G σ [.ref a0, .int x1_] (some (.int res.1)) res.2 := by
  refine bz_mk (cc := cX6_placeInLine) (maxL := 4) (ret := (some .int)) (own := RX6) (by decide) rfl rfl (Nat.le_of_ble_eq_true rfl) ?_
  intro p e s m args below meth c ls C hlocks hr h hl
  have hx := C.1
  have hb := C.2.1
  have hts := C.2.2.2.2.1
  have hl : lv_has ls 4 [(0, .ref a0), (1, .int x1_)] := hl
  obtain ⟨H, eH⟩ : ∃ y, y = s.heap := ⟨_, rfl⟩
  obtain ⟨locs, el⟩ : ∃ y : List Loc, y = [] := ⟨_, rfl⟩
  rw [← el, ← eH] at h ⊢
  unfold f_X6_placeInLine at hF
  refine lv_aload_n hx hb dX6_placeInLine_0 rfl (lv_at hl 0 rfl) ?_
  obtain ⟨r1, σ2, qr1, hF⟩ := bd_u hF
  refine bz_callV (rest := []) (st1 := [.int r1]) C h (As := []) (o := some (.int r1)) (τ := σ2) (c_X6_fillLine (l := l) ka0 (res := (r1, σ2)) qr1) ka0 (by decide) (ci := 6) rfl (cwV 0 hts (bz_gV wd_7_5 wd_7_6 wd_7_7 wd_1_2 wd_7_8) rfl rfl rfl (by decide +kernel) ⟨Nat.le_of_ble_eq_true rfl, Nat.le_of_ble_eq_true rfl⟩) rfl hl.1 rfl (by decide) ⟨Nat.le_of_ble_eq_true rfl, Nat.le_of_ble_eq_true rfl⟩ dX6_placeInLine_1 rfl (fun H locs h => ?_)
  refine lv_istore_n (lv' := [(2, .int r1), (0, .ref a0), (1, .int x1_)]) hx hb dX6_placeInLine_4 rfl hl (by decide) rfl (fun ls hl => ?_)
  refine lv_iconst (v := 0) hx hb dX6_placeInLine_5 (by decide) ?_
  refine lv_istore_n (lv' := [(3, .int 0), (2, .int r1), (0, .ref a0), (1, .int x1_)]) hx hb dX6_placeInLine_6 rfl hl (by decide) rfl (fun ls hl => ?_)
  refine L_X6_placeInLine_L7 C hlocks hr ka0 _ _ _ H locs ls hF h (lv_sub hl [2, 3, 1, 0] rfl) ?_
  intro σ8 H locs ls hF h hl
  refine lv_bipush (v := (-4)) hx hb dX6_placeInLine_30 (by decide) ?_
  exact bz_iret C h hlocks hr hF dX6_placeInLine_32
set_option maxHeartbeats 4000000 in
set_option maxRecDepth 100000 in
theorem c_X6_request {l : Launch} {G : bz_G} {σ : bz_W} {a0 : Nat} {x1_ : Int32} (ka0 : bz_k G a0 = (7, 0)) {res : Int32 × bz_W} (hF : f_X6_request σ a0 x1_ = some res) : bz_M l yX6_request wz_X6_request 6 139 G σ [.ref a0, .int x1_] (some (.int res.1)) res.2 := by
  refine bz_mk (cc := cX6_request) (maxL := 3) (ret := (some .int)) (own := RX6) (by decide) rfl rfl (Nat.le_of_ble_eq_true rfl) ?_
  intro p e s m args below meth c ls C hlocks hr h hl
  have hx := C.1
  have hb := C.2.1
  have hts := C.2.2.2.2.1
  have hl : lv_has ls 3 [(0, .ref a0), (1, .int x1_)] := hl
  obtain ⟨H, eH⟩ : ∃ y, y = s.heap := ⟨_, rfl⟩
  obtain ⟨locs, el⟩ : ∃ y : List Loc, y = [] := ⟨_, rfl⟩
  rw [← el, ← eH] at h ⊢
  unfold f_X6_request at hF
  refine lv_aload_n hx hb dX6_request_0 rfl (lv_at hl 0 rfl) ?_
  refine lv_iconst (v := 0) hx hb dX6_request_1 (by decide) ?_
  refine lv_iload_n hx hb dX6_request_2 rfl (lv_at hl 1 rfl) ?_
  refine lv_bipush (v := (-4)) hx hb dX6_request_3 (by decide) ?_
  obtain ⟨r1, σ2, qr1, hF⟩ := bd_u hF
  refine bz_callV (rest := []) (st1 := [.int r1]) C h (As := [.int 0, .int x1_, .int (-4)]) (o := some (.int r1)) (τ := σ2) (c_X6_callOrder (l := l) ka0 (res := (r1, σ2)) qr1) ka0 (by decide) (ci := 6) rfl (cwV 3 hts (bz_gV wd_8_2 wd_8_3 wd_8_4 wd_1_2 wd_8_5) rfl rfl rfl (by decide +kernel) ⟨Nat.le_of_ble_eq_true rfl, Nat.le_of_ble_eq_true rfl⟩) rfl hl.1 rfl (by decide) ⟨Nat.le_of_ble_eq_true rfl, Nat.le_of_ble_eq_true rfl⟩ dX6_request_5 rfl (fun H locs h => ?_)
  refine lv_istore_n (lv' := [(2, .int r1), (0, .ref a0), (1, .int x1_)]) hx hb dX6_request_8 rfl hl (by decide) rfl (fun ls hl => ?_)
  refine lv_iload_n hx hb dX6_request_9 rfl (lv_at hl 0 rfl) ?_
  refine lv_if_ge (tgt := 17) hx hb dX6_request_10 (by decide) (fun c3 => ?_) (fun c3 => ?_)
  · have hF := it_t hF c3
    refine lv_aload_n hx hb dX6_request_17 rfl (lv_at hl 1 rfl) ?_
    refine lv_iload_n hx hb dX6_request_18 rfl (lv_at hl 2 rfl) ?_
    obtain ⟨r4, σ5, qr4, hF⟩ := bd_u hF
    refine bz_callV (rest := []) (st1 := [.int r4]) C h (As := [.int x1_]) (o := some (.int r4)) (τ := σ5) (c_X6_placeInLine (l := l) ka0 (res := (r4, σ5)) qr4) ka0 (by decide) (ci := 6) rfl (cwV 1 hts (bz_gV wd_10_16 wd_10_17 wd_10_18 wd_1_2 wd_10_19) rfl rfl rfl (by decide +kernel) ⟨Nat.le_of_ble_eq_true rfl, Nat.le_of_ble_eq_true rfl⟩) rfl hl.1 rfl (by decide) ⟨Nat.le_of_ble_eq_true rfl, Nat.le_of_ble_eq_true rfl⟩ dX6_request_19 rfl (fun H locs h => ?_)
    exact bz_iret C h hlocks hr hF dX6_request_22
  · have hF := it_f hF c3
    refine lv_iload_n hx hb dX6_request_13 rfl (lv_at hl 0 rfl) ?_
    refine lv_goto (tgt := 22) hx hb dX6_request_14 (by decide) ?_
    exact bz_iret C h hlocks hr hF dX6_request_22
set_option maxHeartbeats 4000000 in
set_option maxRecDepth 100000 in
theorem c_X6_stop {l : Launch} {G : bz_G} {σ : bz_W} {a0 : Nat} {x1_ : Int32} (ka0 : bz_k G a0 = (7, 0)) {res : Int32 × bz_W} (hF : f_X6_stop σ a0 x1_ = some res) : bz_M l yX6_stop wz_X6_stop 6 139 G σ [.ref a0, .int x1_] (some (.int res.1)) res.2 := by
  refine bz_mk (cc := cX6_stop) (maxL := 2) (ret := (some .int)) (own := RX6) (by decide) rfl rfl (Nat.le_of_ble_eq_true rfl) ?_
  intro p e s m args below meth c ls C hlocks hr h hl
  have hx := C.1
  have hb := C.2.1
  have hts := C.2.2.2.2.1
  have hl : lv_has ls 2 [(0, .ref a0), (1, .int x1_)] := hl
  obtain ⟨H, eH⟩ : ∃ y, y = s.heap := ⟨_, rfl⟩
  obtain ⟨locs, el⟩ : ∃ y : List Loc, y = [] := ⟨_, rfl⟩
  rw [← el, ← eH] at h ⊢
  unfold f_X6_stop at hF
  refine lv_aload_n hx hb dX6_stop_0 rfl (lv_at hl 0 rfl) ?_
  refine lv_iconst (v := 1) hx hb dX6_stop_1 (by decide) ?_
  refine lv_iload_n hx hb dX6_stop_2 rfl (lv_at hl 1 rfl) ?_
  refine lv_bipush (v := (-4)) hx hb dX6_stop_3 (by decide) ?_
  obtain ⟨r1, σ2, qr1, hF⟩ := bd_u hF
  refine bz_callV (rest := []) (st1 := [.int r1]) C h (As := [.int 1, .int x1_, .int (-4)]) (o := some (.int r1)) (τ := σ2) (c_X6_callOrder (l := l) ka0 (res := (r1, σ2)) qr1) ka0 (by decide) (ci := 6) rfl (cwV 3 hts (bz_gV wd_8_2 wd_8_3 wd_8_4 wd_1_2 wd_8_5) rfl rfl rfl (by decide +kernel) ⟨Nat.le_of_ble_eq_true rfl, Nat.le_of_ble_eq_true rfl⟩) rfl hl.1 rfl (by decide) ⟨Nat.le_of_ble_eq_true rfl, Nat.le_of_ble_eq_true rfl⟩ dX6_stop_5 rfl (fun H locs h => ?_)
  exact bz_iret C h hlocks hr hF dX6_stop_8
set_option maxHeartbeats 4000000 in
set_option maxRecDepth 100000 in
theorem c_X6_losePhases {l : Launch} {G : bz_G} {σ : bz_W} {a0 : Nat} {x1_ : Int32} {x2_ : Int32} (ka0 : bz_k G a0 = (7, 0)) {res : Int32 × bz_W} (hF : f_X6_losePhases σ a0 x1_ x2_ = some res) : bz_M l yX6_losePhases wz_X6_losePhases 6 139 G σ [.ref a0, .int x1_, .int x2_] (some (.int res.1)) res.2 := by
  refine bz_mk (cc := cX6_losePhases) (maxL := 3) (ret := (some .int)) (own := RX6) (by decide) rfl rfl (Nat.le_of_ble_eq_true rfl) ?_
  intro p e s m args below meth c ls C hlocks hr h hl
  have hx := C.1
  have hb := C.2.1
  have hts := C.2.2.2.2.1
  have hl : lv_has ls 3 [(0, .ref a0), (1, .int x1_), (2, .int x2_)] := hl
  obtain ⟨H, eH⟩ : ∃ y, y = s.heap := ⟨_, rfl⟩
  obtain ⟨locs, el⟩ : ∃ y : List Loc, y = [] := ⟨_, rfl⟩
  rw [← el, ← eH] at h ⊢
  unfold f_X6_losePhases at hF
  refine lv_aload_n hx hb dX6_losePhases_0 rfl (lv_at hl 0 rfl) ?_
  refine lv_iconst (v := 2) hx hb dX6_losePhases_1 (by decide) ?_
  refine lv_iload_n hx hb dX6_losePhases_2 rfl (lv_at hl 1 rfl) ?_
  refine lv_iload_n hx hb dX6_losePhases_3 rfl (lv_at hl 2 rfl) ?_
  obtain ⟨r1, σ2, qr1, hF⟩ := bd_u hF
  refine bz_callV (rest := []) (st1 := [.int r1]) C h (As := [.int 2, .int x1_, .int x2_]) (o := some (.int r1)) (τ := σ2) (c_X6_callOrder (l := l) ka0 (res := (r1, σ2)) qr1) ka0 (by decide) (ci := 6) rfl (cwV 3 hts (bz_gV wd_8_2 wd_8_3 wd_8_4 wd_1_2 wd_8_5) rfl rfl rfl (by decide +kernel) ⟨Nat.le_of_ble_eq_true rfl, Nat.le_of_ble_eq_true rfl⟩) rfl hl.1 rfl (by decide) ⟨Nat.le_of_ble_eq_true rfl, Nat.le_of_ble_eq_true rfl⟩ dX6_losePhases_4 rfl (fun H locs h => ?_)
  exact bz_iret C h hlocks hr hF dX6_losePhases_7
set_option maxHeartbeats 4000000 in
set_option maxRecDepth 100000 in
theorem c_X6_reset {l : Launch} {G : bz_G} {σ : bz_W} {a0 : Nat} {x1_ : Int32} (ka0 : bz_k G a0 = (7, 0)) {res : Int32 × bz_W} (hF : f_X6_reset σ a0 x1_ = some res) : bz_M l yX6_reset wz_X6_reset 6 139 G σ [.ref a0, .int x1_] (some (.int res.1)) res.2 := by
  refine bz_mk (cc := cX6_reset) (maxL := 2) (ret := (some .int)) (own := RX6) (by decide) rfl rfl (Nat.le_of_ble_eq_true rfl) ?_
  intro p e s m args below meth c ls C hlocks hr h hl
  have hx := C.1
  have hb := C.2.1
  have hts := C.2.2.2.2.1
  have hl : lv_has ls 2 [(0, .ref a0), (1, .int x1_)] := hl
  obtain ⟨H, eH⟩ : ∃ y, y = s.heap := ⟨_, rfl⟩
  obtain ⟨locs, el⟩ : ∃ y : List Loc, y = [] := ⟨_, rfl⟩
  rw [← el, ← eH] at h ⊢
  unfold f_X6_reset at hF
  refine lv_aload_n hx hb dX6_reset_0 rfl (lv_at hl 0 rfl) ?_
  refine lv_iconst (v := 3) hx hb dX6_reset_1 (by decide) ?_
  refine lv_iload_n hx hb dX6_reset_2 rfl (lv_at hl 1 rfl) ?_
  refine lv_bipush (v := (-4)) hx hb dX6_reset_3 (by decide) ?_
  obtain ⟨r1, σ2, qr1, hF⟩ := bd_u hF
  refine bz_callV (rest := []) (st1 := [.int r1]) C h (As := [.int 3, .int x1_, .int (-4)]) (o := some (.int r1)) (τ := σ2) (c_X6_callOrder (l := l) ka0 (res := (r1, σ2)) qr1) ka0 (by decide) (ci := 6) rfl (cwV 3 hts (bz_gV wd_8_2 wd_8_3 wd_8_4 wd_1_2 wd_8_5) rfl rfl rfl (by decide +kernel) ⟨Nat.le_of_ble_eq_true rfl, Nat.le_of_ble_eq_true rfl⟩) rfl hl.1 rfl (by decide) ⟨Nat.le_of_ble_eq_true rfl, Nat.le_of_ble_eq_true rfl⟩ dX6_reset_5 rfl (fun H locs h => ?_)
  exact bz_iret C h hlocks hr hF dX6_reset_8
set_option maxHeartbeats 4000000 in
set_option maxRecDepth 100000 in
theorem c_X6_carryOutItem {l : Launch} {G : bz_G} {σ : bz_W} {a0 : Nat} {x1_ : Int32} {x2_ : Int32} {x3_ : Int32} (ka0 : bz_k G a0 = (7, 0)) {res : Int32 × bz_W} (hF : f_X6_carryOutItem σ a0 x1_ x2_ x3_ = some res) : bz_M l yX6_carryOutItem wz_X6_carryOutItem 5 115 G σ [.ref a0, .int x1_, .int x2_, .int x3_] none res.2 := by
  refine bz_mk (cc := cX6_carryOutItem) (maxL := 5) (ret := none) (own := RX6) (by decide) rfl rfl (Nat.le_of_ble_eq_true rfl) ?_
  intro p e s m args below meth c ls C hlocks hr h hl
  have hx := C.1
  have hb := C.2.1
  have hts := C.2.2.2.2.1
  have hl : lv_has ls 5 [(0, .ref a0), (1, .int x1_), (2, .int x2_), (3, .int x3_)] := hl
  obtain ⟨H, eH⟩ : ∃ y, y = s.heap := ⟨_, rfl⟩
  obtain ⟨locs, el⟩ : ∃ y : List Loc, y = [] := ⟨_, rfl⟩
  rw [← el, ← eH] at h ⊢
  unfold f_X6_carryOutItem at hF
  refine lv_aload_n hx hb dX6_carryOutItem_0 rfl (lv_at hl 0 rfl) ?_
  refine lv_iload_n hx hb dX6_carryOutItem_1 rfl (lv_at hl 1 rfl) ?_
  refine lv_iload_n hx hb dX6_carryOutItem_2 rfl (lv_at hl 2 rfl) ?_
  refine lv_iload_n hx hb dX6_carryOutItem_3 rfl (lv_at hl 3 rfl) ?_
  obtain ⟨r1, σ2, qr1, hF⟩ := bd_u hF
  refine bz_callV (rest := []) (st1 := [.int r1]) C h (As := [.int x1_, .int x2_, .int x3_]) (o := some (.int r1)) (τ := σ2) (c_X6_checkOrder (l := l) ka0 (res := (r1, σ2)) qr1) ka0 (by decide) (ci := 6) rfl (cwV 3 hts (bz_gV wd_8_6 wd_8_7 wd_8_8 wd_1_2 wd_8_9) rfl rfl rfl (by decide +kernel) ⟨Nat.le_of_ble_eq_true rfl, Nat.le_of_ble_eq_true rfl⟩) rfl hl.1 rfl (by decide) ⟨Nat.le_of_ble_eq_true rfl, Nat.le_of_ble_eq_true rfl⟩ dX6_carryOutItem_4 rfl (fun H locs h => ?_)
  refine lv_istore (lv' := [(4, .int r1), (0, .ref a0), (1, .int x1_), (2, .int x2_), (3, .int x3_)]) hx hb dX6_carryOutItem_7 hl (by decide) rfl (fun ls hl => ?_)
  refine lv_iload hx hb dX6_carryOutItem_9 (lv_at hl 0 rfl) ?_
  refine lv_if_ne (tgt := 25) hx hb dX6_carryOutItem_11 (by decide) (fun c3 => ?_) (fun c3 => ?_)
  · have hF := it_f hF c3
    refine lv_iload hx hb dX6_carryOutItem_25 (lv_at hl 0 rfl) ?_
    refine lv_bipush (v := (-4)) hx hb dX6_carryOutItem_27 (by decide) ?_
    refine lv_icmp_eq (tgt := 45) hx hb dX6_carryOutItem_29 (by decide) (fun c4 => ?_) (fun c4 => ?_)
    · have hF := it_t hF c4
      exact bz_vret C h hlocks hr hF dX6_carryOutItem_45
    · have hF := it_f hF c4
      refine lv_aload_n hx hb dX6_carryOutItem_32 rfl (lv_at hl 1 rfl) ?_
      refine gf_6_0 C h ka0 iz_X6 (List.mem_cons_of_mem _ wd_1_12) dX6_carryOutItem_33 (fun k5 => ?_)
      refine lv_dup hx hb dX6_carryOutItem_36 rfl ?_
      refine gf_3_7 C h k5 iz_X3 (List.mem_cons_of_mem _ wd_16_7) dX6_carryOutItem_37 ?_
      refine lv_iconst (v := 1) hx hb dX6_carryOutItem_40 (by decide) ?_
      refine lv_iadd hx hb dX6_carryOutItem_41 ?_
      refine pf_3_7 C h k5 iz_X3 (List.mem_cons_of_mem _ wd_16_7) dX6_carryOutItem_42 (fun H locs h => ?_)
      obtain ⟨σ6, eσ6⟩ : ∃ y : bz_W, y = bz_wi σ2 (σ2.2 a0 0) 7 ((σ2.1 (σ2.2 a0 0) 7) + 1) := ⟨_, rfl⟩
      rw [← eσ6] at h
      have hF := lt_u hF σ6 eσ6
      exact bz_vret C h hlocks hr hF dX6_carryOutItem_45
  · have hF := it_t hF c3
    refine lv_aload_n hx hb dX6_carryOutItem_14 rfl (lv_at hl 1 rfl) ?_
    refine lv_iload_n hx hb dX6_carryOutItem_15 rfl (lv_at hl 2 rfl) ?_
    refine lv_iload_n hx hb dX6_carryOutItem_16 rfl (lv_at hl 3 rfl) ?_
    refine lv_iload_n hx hb dX6_carryOutItem_17 rfl (lv_at hl 4 rfl) ?_
    obtain ⟨r7, σ8, qr7, hF⟩ := bd_u hF
    refine bz_callV (rest := []) (st1 := [.int r7]) C h (As := [.int x1_, .int x2_, .int x3_]) (o := some (.int r7)) (τ := σ8) (c_X6_carryOut (l := l) ka0 (res := (r7, σ8)) qr7) ka0 (by decide) (ci := 6) rfl (cwV 3 hts (bz_gV wd_9_10 wd_9_11 wd_9_12 wd_1_2 wd_9_13) rfl rfl rfl (by decide +kernel) ⟨Nat.le_of_ble_eq_true rfl, Nat.le_of_ble_eq_true rfl⟩) rfl hl.1 rfl (by decide) ⟨Nat.le_of_ble_eq_true rfl, Nat.le_of_ble_eq_true rfl⟩ dX6_carryOutItem_18 rfl (fun H locs h => ?_)
    refine lv_pop hx hb dX6_carryOutItem_21 rfl ?_
    refine lv_goto (tgt := 45) hx hb dX6_carryOutItem_22 (by decide) ?_
    exact bz_vret C h hlocks hr hF dX6_carryOutItem_45
set_option maxHeartbeats 4000000 in
set_option maxRecDepth 100000 in
theorem L_X6_carryOutDueItems_L13 {p : Program} {l : Launch} {e : Env} {s : State} {m : MethodId} {args : Array Value} {below : List Frame} {meth : Method} {c : Code} {G : bz_G} (C : bz_C p s m c args cX6_carryOutDueItems 3 RX6 wz_X6_carryOutDueItems G) (hlocks : meth.locks = false) (hr : meth.sig.returnType = none) {a0 : Nat} {a1 : Nat} (ka0 : bz_k G a0 = (7, 0)) (ka1 : bz_k G a1 = (5, 0)) {k : bz_W → Option (Int32 × bz_W)} {res : Int32 × bz_W} : ∀ (n : Nat) (v2 : Int32) (σ : bz_W) (H : Heap) (locs : List Loc) (ls : Array Slot), f_X6_carryOutDueItems_L13 a0 a1 k n v2 σ = some res → bz_H G s σ H locs → lv_has ls 3 [(0, .ref a0), (1, .ref a1), (2, .int v2)] → (∀ (σ : bz_W) (H : Heap) (locs : List Loc) (ls : Array Slot), k σ = some res → bz_H G s σ H locs → lv_has ls 3 [] → W p l e ({ frames := 6, cells := 0, slots := 0, locals := 139 } : Room) s m args below meth c H locs 0 0 (MQ below (bz_Qc G none res.2) args s 0 0 (bz_A G)) (F0 m 73 ls [])) → W p l e ({ frames := 6, cells := 0, slots := 0, locals := 139 } : Room) s m args below meth c H locs 0 0 (MQ below (bz_Qc G none res.2) args s 0 0 (bz_A G)) (F0 m 13 ls []) := by
  have hx := C.1
  have hb := C.2.1
  have hts := C.2.2.2.2.1
  intro n
  induction n with
  | zero =>
    intro v2 σ H locs ls hF
    exact absurd hF (by simp [f_X6_carryOutDueItems_L13])
  | succ n ih =>
    intro v2 σ H locs ls hF h hl hk
    rw [f_X6_carryOutDueItems_L13] at hF
    refine lv_iload_n hx hb dX6_carryOutDueItems_13 rfl (lv_at hl 2 rfl) ?_
    refine lv_aload_n hx hb dX6_carryOutDueItems_14 rfl (lv_at hl 1 rfl) ?_
    refine gf_4_4 C h ka1 iz_X4 (List.mem_cons_of_mem _ wd_18_0) dX6_carryOutDueItems_15 ?_
    refine lv_icmp_ge (tgt := 73) hx hb dX6_carryOutDueItems_18 (by decide) (fun c4 => ?_) (fun c4 => ?_)
    · have hF := it_t hF c4
      exact hk _ H locs ls hF h (lv_sub hl [] rfl)
    · have hF := it_f hF c4
      refine lv_aload_n hx hb dX6_carryOutDueItems_21 rfl (lv_at hl 1 rfl) ?_
      refine gf_4_0 C h ka1 iz_X4 (List.mem_cons_of_mem _ wd_18_1) dX6_carryOutDueItems_22 (fun k5 => ?_)
      refine lv_iload_n hx hb dX6_carryOutDueItems_25 rfl (lv_at hl 2 rfl) ?_
      obtain ⟨c6, hF⟩ := ck_u hF
      refine bz_iald C h k5 c6 (kx := v2.toNatClampNeg) rfl dX6_carryOutDueItems_26 ?_
      refine lv_aload_n hx hb dX6_carryOutDueItems_27 rfl (lv_at hl 0 rfl) ?_
      refine gf_6_0 C h ka0 iz_X6 (List.mem_cons_of_mem _ wd_1_12) dX6_carryOutDueItems_28 (fun k7 => ?_)
      refine gf_3_4 C h k7 iz_X3 (List.mem_cons_of_mem _ wd_6_15) dX6_carryOutDueItems_31 ?_
      refine lv_icmp_le (tgt := 38) hx hb dX6_carryOutDueItems_34 (by decide) (fun c8 => ?_) (fun c8 => ?_)
      · have hF := it_t hF c8
        refine lv_aload_n hx hb dX6_carryOutDueItems_38 rfl (lv_at hl 1 rfl) ?_
        refine lv_iload_n hx hb dX6_carryOutDueItems_39 rfl (lv_at hl 2 rfl) ?_
        refine lv_iconst (v := 1) hx hb dX6_carryOutDueItems_40 (by decide) ?_
        refine lv_iadd hx hb dX6_carryOutDueItems_41 ?_
        refine pf_4_5 C h ka1 iz_X4 (List.mem_cons_of_mem _ wd_17_23) dX6_carryOutDueItems_42 (fun H locs h => ?_)
        obtain ⟨σ9, eσ9⟩ : ∃ y : bz_W, y = bz_wi σ a1 5 (v2 + 1) := ⟨_, rfl⟩
        rw [← eσ9] at h
        have hF := lt_u hF σ9 eσ9
        refine lv_aload_n hx hb dX6_carryOutDueItems_45 rfl (lv_at hl 0 rfl) ?_
        refine lv_aload_n hx hb dX6_carryOutDueItems_46 rfl (lv_at hl 1 rfl) ?_
        refine gf_4_1 C h ka1 iz_X4 (List.mem_cons_of_mem _ wd_18_2) dX6_carryOutDueItems_47 (fun k10 => ?_)
        refine lv_iload_n hx hb dX6_carryOutDueItems_50 rfl (lv_at hl 2 rfl) ?_
        obtain ⟨c11, hF⟩ := ck_u hF
        refine bz_iald C h k10 c11 (kx := v2.toNatClampNeg) rfl dX6_carryOutDueItems_51 ?_
        refine lv_aload_n hx hb dX6_carryOutDueItems_52 rfl (lv_at hl 1 rfl) ?_
        refine gf_4_2 C h ka1 iz_X4 (List.mem_cons_of_mem _ wd_18_3) dX6_carryOutDueItems_53 (fun k12 => ?_)
        refine lv_iload_n hx hb dX6_carryOutDueItems_56 rfl (lv_at hl 2 rfl) ?_
        obtain ⟨c13, hF⟩ := ck_u hF
        refine bz_iald C h k12 c13 (kx := v2.toNatClampNeg) rfl dX6_carryOutDueItems_57 ?_
        refine lv_aload_n hx hb dX6_carryOutDueItems_58 rfl (lv_at hl 1 rfl) ?_
        refine gf_4_3 C h ka1 iz_X4 (List.mem_cons_of_mem _ wd_18_4) dX6_carryOutDueItems_59 (fun k14 => ?_)
        refine lv_iload_n hx hb dX6_carryOutDueItems_62 rfl (lv_at hl 2 rfl) ?_
        obtain ⟨c15, hF⟩ := ck_u hF
        refine bz_iald C h k14 c15 (kx := v2.toNatClampNeg) rfl dX6_carryOutDueItems_63 ?_
        obtain ⟨r16, σ17, qr16, hF⟩ := bd_u hF
        refine bz_callV (rest := []) (st1 := []) C h (As := [.int (σ9.1 (σ9.2 a1 1) v2.toNatClampNeg), .int (σ9.1 (σ9.2 a1 2) v2.toNatClampNeg), .int (σ9.1 (σ9.2 a1 3) v2.toNatClampNeg)]) (o := none) (τ := σ17) (c_X6_carryOutItem (l := l) ka0 (res := (r16, σ17)) qr16) ka0 (by decide) (ci := 6) rfl (cwV 3 hts (bz_gV wd_18_5 wd_18_6 wd_18_7 wd_1_2 wd_18_8) rfl rfl rfl (by decide +kernel) ⟨Nat.le_of_ble_eq_true rfl, Nat.le_of_ble_eq_true rfl⟩) rfl hl.1 rfl (by decide) ⟨Nat.le_of_ble_eq_true rfl, Nat.le_of_ble_eq_true rfl⟩ dX6_carryOutDueItems_64 rfl (fun H locs h => ?_)
        obtain ⟨x18, ex18⟩ : ∃ y : Int32, y = v2 + 1 := ⟨_, rfl⟩
        have hF := lt_u hF x18 ex18
        refine lv_iinc (v := x18) (lv' := [(2, .int x18), (0, .ref a0), (1, .ref a1)]) hx hb dX6_carryOutDueItems_67 hl (k := 2) rfl (by rw [ex18]; rfl) (by decide) rfl (fun ls hl => ?_)
        refine lv_goto (tgt := 13) hx hb dX6_carryOutDueItems_70 (by decide) ?_
        exact ih _ _ H locs ls hF h (lv_sub hl [1, 2, 0] rfl) hk
      · have hF := it_f hF c8
        exact bz_vret C h hlocks hr hF dX6_carryOutDueItems_37
set_option maxHeartbeats 4000000 in
set_option maxRecDepth 100000 in
theorem c_X6_carryOutDueItems {l : Launch} {G : bz_G} {σ : bz_W} {a0 : Nat} (ka0 : bz_k G a0 = (7, 0)) {res : Int32 × bz_W} (hF : f_X6_carryOutDueItems σ a0 = some res) : bz_M l yX6_carryOutDueItems wz_X6_carryOutDueItems 6 139 G σ [.ref a0] none res.2 := by
  refine bz_mk (cc := cX6_carryOutDueItems) (maxL := 3) (ret := none) (own := RX6) (by decide) rfl rfl (Nat.le_of_ble_eq_true rfl) ?_
  intro p e s m args below meth c ls C hlocks hr h hl
  have hx := C.1
  have hb := C.2.1
  have hts := C.2.2.2.2.1
  have hl : lv_has ls 3 [(0, .ref a0)] := hl
  obtain ⟨H, eH⟩ : ∃ y, y = s.heap := ⟨_, rfl⟩
  obtain ⟨locs, el⟩ : ∃ y : List Loc, y = [] := ⟨_, rfl⟩
  rw [← el, ← eH] at h ⊢
  unfold f_X6_carryOutDueItems at hF
  refine lv_aload_n hx hb dX6_carryOutDueItems_0 rfl (lv_at hl 0 rfl) ?_
  refine gf_6_0 C h ka0 iz_X6 (List.mem_cons_of_mem _ wd_1_12) dX6_carryOutDueItems_1 (fun k1 => ?_)
  refine gf_3_1 C h k1 iz_X3 (List.mem_cons_of_mem _ wd_11_14) dX6_carryOutDueItems_4 (fun k2 => ?_)
  refine lv_astore_n (lv' := [(1, .ref (σ.2 (σ.2 a0 0) 1)), (0, .ref a0)]) hx hb dX6_carryOutDueItems_7 rfl hl (by decide) rfl (fun ls hl => ?_)
  refine lv_aload_n hx hb dX6_carryOutDueItems_8 rfl (lv_at hl 0 rfl) ?_
  refine gf_4_5 C h k2 iz_X4 (List.mem_cons_of_mem _ wd_17_23) dX6_carryOutDueItems_9 ?_
  refine lv_topi (fun x3 ex3 => ?_)
  have hF := lt_u hF x3 ex3
  refine lv_istore_n (lv' := [(2, .int x3), (1, .ref (σ.2 (σ.2 a0 0) 1)), (0, .ref a0)]) hx hb dX6_carryOutDueItems_12 rfl hl (by decide) rfl (fun ls hl => ?_)
  refine L_X6_carryOutDueItems_L13 C hlocks hr ka0 k2 _ _ _ H locs ls hF h (lv_sub hl [2, 1, 0] rfl) ?_
  intro σ19 H locs ls hF h hl
  exact bz_vret C h hlocks hr hF dX6_carryOutDueItems_73
set_option maxHeartbeats 4000000 in
set_option maxRecDepth 100000 in
theorem L_X6_passOver_L2 {p : Program} {l : Launch} {e : Env} {s : State} {m : MethodId} {args : Array Value} {below : List Frame} {meth : Method} {c : Code} {G : bz_G} (C : bz_C p s m c args cX6_passOver 3 RX6 wz_X6_passOver G) (hlocks : meth.locks = false) (hr : meth.sig.returnType = none) {a0 : Nat} {a1 : Int32} (ka0 : bz_k G a0 = (7, 0)) {k : bz_W → Option (Int32 × bz_W)} {res : Int32 × bz_W} : ∀ (n : Nat) (v2 : Int32) (σ : bz_W) (H : Heap) (locs : List Loc) (ls : Array Slot), f_X6_passOver_L2 a0 a1 k n v2 σ = some res → bz_H G s σ H locs → lv_has ls 3 [(0, .ref a0), (1, .int a1), (2, .int v2)] → (∀ (σ : bz_W) (H : Heap) (locs : List Loc) (ls : Array Slot), k σ = some res → bz_H G s σ H locs → lv_has ls 3 [] → W p l e ({ frames := 0, cells := 0, slots := 0, locals := 0 } : Room) s m args below meth c H locs 0 0 (MQ below (bz_Qc G none res.2) args s 0 0 (bz_A G)) (F0 m 37 ls [])) → W p l e ({ frames := 0, cells := 0, slots := 0, locals := 0 } : Room) s m args below meth c H locs 0 0 (MQ below (bz_Qc G none res.2) args s 0 0 (bz_A G)) (F0 m 2 ls []) := by
  have hx := C.1
  have hb := C.2.1
  have hts := C.2.2.2.2.1
  intro n
  induction n with
  | zero =>
    intro v2 σ H locs ls hF
    exact absurd hF (by simp [f_X6_passOver_L2])
  | succ n ih =>
    intro v2 σ H locs ls hF h hl hk
    rw [f_X6_passOver_L2] at hF
    refine lv_iload_n hx hb dX6_passOver_2 rfl (lv_at hl 2 rfl) ?_
    refine lv_iload_n hx hb dX6_passOver_3 rfl (lv_at hl 1 rfl) ?_
    refine lv_icmp_ge (tgt := 37) hx hb dX6_passOver_4 (by decide) (fun c1 => ?_) (fun c1 => ?_)
    · have hF := it_t hF c1
      exact hk _ H locs ls hF h (lv_sub hl [] rfl)
    · have hF := it_f hF c1
      refine lv_aload_n hx hb dX6_passOver_7 rfl (lv_at hl 0 rfl) ?_
      refine gf_6_0 C h ka0 iz_X6 (List.mem_cons_of_mem _ wd_1_12) dX6_passOver_8 (fun k2 => ?_)
      refine gf_3_0 C h k2 iz_X3 (List.mem_cons_of_mem _ wd_7_10) dX6_passOver_11 (fun k3 => ?_)
      refine lv_aload_n hx hb dX6_passOver_14 rfl (lv_at hl 0 rfl) ?_
      refine gf_6_6 C h ka0 iz_X6 (List.mem_cons_of_mem _ wd_2_3) dX6_passOver_15 (fun k4 => ?_)
      refine lv_iload_n hx hb dX6_passOver_18 rfl (lv_at hl 2 rfl) ?_
      obtain ⟨c5, hF⟩ := ck_u hF
      refine bz_iald C h k4 c5 (kx := v2.toNatClampNeg) rfl dX6_passOver_19 ?_
      obtain ⟨c6, hF⟩ := ck_u hF
      refine bz_aaldm C h k3 c6 (kx := ((σ.1 (σ.2 a0 6) v2.toNatClampNeg) : Int32).toNatClampNeg) rfl dX6_passOver_20 (fun k7 => ?_)
      refine gf_2_1 C h k7 iz_X2 (List.mem_cons_of_mem _ wd_18_14) dX6_passOver_21 (fun k8 => ?_)
      refine lv_bipush (v := 6) hx hb dX6_passOver_24 (by decide) ?_
      refine lv_dup2_11 hx hb dX6_passOver_26 rfl rfl ?_
      refine bz_iald C h k8 (by decide) (kx := 6) (bz_cl 6 (by decide)) dX6_passOver_27 ?_
      refine lv_iconst (v := 1) hx hb dX6_passOver_28 (by decide) ?_
      refine lv_iadd hx hb dX6_passOver_29 ?_
      refine bz_iast C h k8 (by decide) (kx := 6) (bz_cl 6 (by decide)) dX6_passOver_30 (fun H locs h => ?_)
      obtain ⟨σ9, eσ9⟩ : ∃ y : bz_W, y = bz_wi σ (σ.2 (σ.2 (σ.2 (σ.2 a0 0) 0) ((σ.1 (σ.2 a0 6) v2.toNatClampNeg) : Int32).toNatClampNeg) 1) 6 ((σ.1 (σ.2 (σ.2 (σ.2 (σ.2 a0 0) 0) ((σ.1 (σ.2 a0 6) v2.toNatClampNeg) : Int32).toNatClampNeg) 1) 6) + 1) := ⟨_, rfl⟩
      rw [← eσ9] at h
      have hF := lt_u hF σ9 eσ9
      obtain ⟨x10, ex10⟩ : ∃ y : Int32, y = v2 + 1 := ⟨_, rfl⟩
      have hF := lt_u hF x10 ex10
      refine lv_iinc (v := x10) (lv' := [(2, .int x10), (0, .ref a0), (1, .int a1)]) hx hb dX6_passOver_31 hl (k := 2) rfl (by rw [ex10]; rfl) (by decide) rfl (fun ls hl => ?_)
      refine lv_goto (tgt := 2) hx hb dX6_passOver_34 (by decide) ?_
      exact ih _ _ H locs ls hF h (lv_sub hl [1, 2, 0] rfl) hk
set_option maxHeartbeats 4000000 in
set_option maxRecDepth 100000 in
theorem c_X6_passOver {l : Launch} {G : bz_G} {σ : bz_W} {a0 : Nat} {x1_ : Int32} (ka0 : bz_k G a0 = (7, 0)) {res : Int32 × bz_W} (hF : f_X6_passOver σ a0 x1_ = some res) : bz_M l yX6_passOver wz_X6_passOver 0 0 G σ [.ref a0, .int x1_] none res.2 := by
  refine bz_mk (cc := cX6_passOver) (maxL := 3) (ret := none) (own := RX6) (by decide) rfl rfl (Nat.le_of_ble_eq_true rfl) ?_
  intro p e s m args below meth c ls C hlocks hr h hl
  have hx := C.1
  have hb := C.2.1
  have hts := C.2.2.2.2.1
  have hl : lv_has ls 3 [(0, .ref a0), (1, .int x1_)] := hl
  obtain ⟨H, eH⟩ : ∃ y, y = s.heap := ⟨_, rfl⟩
  obtain ⟨locs, el⟩ : ∃ y : List Loc, y = [] := ⟨_, rfl⟩
  rw [← el, ← eH] at h ⊢
  unfold f_X6_passOver at hF
  refine lv_iconst (v := 0) hx hb dX6_passOver_0 (by decide) ?_
  refine lv_istore_n (lv' := [(2, .int 0), (0, .ref a0), (1, .int x1_)]) hx hb dX6_passOver_1 rfl hl (by decide) rfl (fun ls hl => ?_)
  refine L_X6_passOver_L2 C hlocks hr ka0 _ _ _ H locs ls hF h (lv_sub hl [1, 2, 0] rfl) ?_
  intro σ11 H locs ls hF h hl
  exact bz_vret C h hlocks hr hF dX6_passOver_37
set_option maxHeartbeats 4000000 in
set_option maxRecDepth 100000 in
theorem L_X6_startFirstThatCan_L7 {p : Program} {l : Launch} {e : Env} {s : State} {m : MethodId} {args : Array Value} {below : List Frame} {meth : Method} {c : Code} {G : bz_G} (C : bz_C p s m c args cX6_startFirstThatCan 4 RX6 wz_X6_startFirstThatCan G) (hlocks : meth.locks = false) (hr : meth.sig.returnType = (some .boolean)) {a0 : Nat} {a1 : Int32} (ka0 : bz_k G a0 = (7, 0)) {k : bz_W → Option (Int32 × bz_W)} {res : Int32 × bz_W} : ∀ (n : Nat) (v2 : Int32) (σ : bz_W) (H : Heap) (locs : List Loc) (ls : Array Slot), f_X6_startFirstThatCan_L7 a0 a1 k n v2 σ = some res → bz_H G s σ H locs → lv_has ls 4 [(0, .ref a0), (1, .int a1), (2, .int v2)] → (∀ (σ : bz_W) (H : Heap) (locs : List Loc) (ls : Array Slot), k σ = some res → bz_H G s σ H locs → lv_has ls 4 [] → W p l e ({ frames := 4, cells := 0, slots := 0, locals := 86 } : Room) s m args below meth c H locs 0 0 (MQ below (bz_Qc G (some (.int res.1)) res.2) args s 0 0 (bz_A G)) (F0 m 80 ls [])) → W p l e ({ frames := 4, cells := 0, slots := 0, locals := 86 } : Room) s m args below meth c H locs 0 0 (MQ below (bz_Qc G (some (.int res.1)) res.2) args s 0 0 (bz_A G)) (F0 m 7 ls []) := by
  have hx := C.1
  have hb := C.2.1
  have hts := C.2.2.2.2.1
  intro n
  induction n with
  | zero =>
    intro v2 σ H locs ls hF
    exact absurd hF (by simp [f_X6_startFirstThatCan_L7])
  | succ n ih =>
    intro v2 σ H locs ls hF h hl hk
    rw [f_X6_startFirstThatCan_L7] at hF
    refine lv_iload_n hx hb dX6_startFirstThatCan_7 rfl (lv_at hl 2 rfl) ?_
    refine lv_iload_n hx hb dX6_startFirstThatCan_8 rfl (lv_at hl 1 rfl) ?_
    refine lv_icmp_ge (tgt := 80) hx hb dX6_startFirstThatCan_9 (by decide) (fun c3 => ?_) (fun c3 => ?_)
    · have hF := it_t hF c3
      exact hk _ H locs ls hF h (lv_sub hl [] rfl)
    · have hF := it_f hF c3
      refine lv_aload_n hx hb dX6_startFirstThatCan_12 rfl (lv_at hl 0 rfl) ?_
      refine gf_6_0 C h ka0 iz_X6 (List.mem_cons_of_mem _ wd_1_12) dX6_startFirstThatCan_13 (fun k4 => ?_)
      refine gf_3_0 C h k4 iz_X3 (List.mem_cons_of_mem _ wd_7_10) dX6_startFirstThatCan_16 (fun k5 => ?_)
      refine lv_aload_n hx hb dX6_startFirstThatCan_19 rfl (lv_at hl 0 rfl) ?_
      refine gf_6_6 C h ka0 iz_X6 (List.mem_cons_of_mem _ wd_2_3) dX6_startFirstThatCan_20 (fun k6 => ?_)
      refine lv_iload_n hx hb dX6_startFirstThatCan_23 rfl (lv_at hl 2 rfl) ?_
      obtain ⟨c7, hF⟩ := ck_u hF
      refine bz_iald C h k6 c7 (kx := v2.toNatClampNeg) rfl dX6_startFirstThatCan_24 ?_
      obtain ⟨c8, hF⟩ := ck_u hF
      refine bz_aaldm C h k5 c8 (kx := ((σ.1 (σ.2 a0 6) v2.toNatClampNeg) : Int32).toNatClampNeg) rfl dX6_startFirstThatCan_25 (fun k9 => ?_)
      refine lv_astore_n (lv' := [(3, .ref (σ.2 (σ.2 (σ.2 a0 0) 0) ((σ.1 (σ.2 a0 6) v2.toNatClampNeg) : Int32).toNatClampNeg)), (0, .ref a0), (1, .int a1), (2, .int v2)]) hx hb dX6_startFirstThatCan_26 rfl hl (by decide) rfl (fun ls hl => ?_)
      refine lv_aload_n hx hb dX6_startFirstThatCan_27 rfl (lv_at hl 1 rfl) ?_
      refine gf_6_0 C h ka0 iz_X6 (List.mem_cons_of_mem _ wd_1_12) dX6_startFirstThatCan_28 (fun k10 => ?_)
      refine lv_aload_n hx hb dX6_startFirstThatCan_31 rfl (lv_at hl 0 rfl) ?_
      obtain ⟨r11, σ12, qr11, hF⟩ := bd_u hF
      refine bz_callV (rest := []) (st1 := [.int r11]) C h (As := [.ref (σ.2 (σ.2 (σ.2 a0 0) 0) ((σ.1 (σ.2 a0 6) v2.toNatClampNeg) : Int32).toNatClampNeg)]) (o := some (.int r11)) (τ := σ12) (c_X3_reasonAgainst (l := l) k10 k9 (res := (r11, σ12)) qr11) k10 (by decide) (ci := 3) rfl (cwV 1 hts (bz_gV wd_18_15 wd_18_16 wd_18_17 wd_1_11 wd_18_18) rfl rfl rfl (by decide +kernel) ⟨Nat.le_of_ble_eq_true rfl, Nat.le_of_ble_eq_true rfl⟩) rfl hl.1 rfl (by decide) ⟨Nat.le_of_ble_eq_true rfl, Nat.le_of_ble_eq_true rfl⟩ dX6_startFirstThatCan_32 rfl (fun H locs h => ?_)
      refine lv_if_ne (tgt := 74) hx hb dX6_startFirstThatCan_35 (by decide) (fun c13 => ?_) (fun c13 => ?_)
      · have hF := it_f hF c13
        obtain ⟨x14, ex14⟩ : ∃ y : Int32, y = v2 + 1 := ⟨_, rfl⟩
        have hF := lt_u hF x14 ex14
        refine lv_iinc (v := x14) (lv' := [(2, .int x14), (3, .ref (σ.2 (σ.2 (σ.2 a0 0) 0) ((σ.1 (σ.2 a0 6) v2.toNatClampNeg) : Int32).toNatClampNeg)), (0, .ref a0), (1, .int a1)]) hx hb dX6_startFirstThatCan_74 hl (k := 3) rfl (by rw [ex14]; rfl) (by decide) rfl (fun ls hl => ?_)
        refine lv_goto (tgt := 7) hx hb dX6_startFirstThatCan_77 (by decide) ?_
        exact ih _ _ H locs ls hF h (lv_sub hl [2, 3, 0] rfl) hk
      · have hF := it_t hF c13
        refine lv_aload_n hx hb dX6_startFirstThatCan_38 rfl (lv_at hl 0 rfl) ?_
        refine lv_iconst (v := 2) hx hb dX6_startFirstThatCan_39 (by decide) ?_
        refine pf_2_8 C h k9 iz_X2 (List.mem_cons_of_mem _ wd_7_11) dX6_startFirstThatCan_40 (fun H locs h => ?_)
        obtain ⟨σ15, eσ15⟩ : ∃ y : bz_W, y = bz_wi σ12 (σ.2 (σ.2 (σ.2 a0 0) 0) ((σ.1 (σ.2 a0 6) v2.toNatClampNeg) : Int32).toNatClampNeg) 8 2 := ⟨_, rfl⟩
        rw [← eσ15] at h
        have hF := lt_u hF σ15 eσ15
        refine lv_aload_n hx hb dX6_startFirstThatCan_43 rfl (lv_at hl 0 rfl) ?_
        refine lv_iconst (v := 0) hx hb dX6_startFirstThatCan_44 (by decide) ?_
        refine pf_2_11 C h k9 iz_X2 (List.mem_cons_of_mem _ wd_18_13) dX6_startFirstThatCan_45 (fun H locs h => ?_)
        obtain ⟨σ16, eσ16⟩ : ∃ y : bz_W, y = bz_wi σ15 (σ.2 (σ.2 (σ.2 a0 0) 0) ((σ.1 (σ.2 a0 6) v2.toNatClampNeg) : Int32).toNatClampNeg) 11 0 := ⟨_, rfl⟩
        rw [← eσ16] at h
        have hF := lt_u hF σ16 eσ16
        refine lv_aload_n hx hb dX6_startFirstThatCan_48 rfl (lv_at hl 0 rfl) ?_
        refine gf_2_1 C h k9 iz_X2 (List.mem_cons_of_mem _ wd_18_14) dX6_startFirstThatCan_49 (fun k17 => ?_)
        refine lv_iconst (v := 2) hx hb dX6_startFirstThatCan_52 (by decide) ?_
        refine lv_dup2_11 hx hb dX6_startFirstThatCan_53 rfl rfl ?_
        refine bz_iald C h k17 (by decide) (kx := 2) (bz_cl 2 (by decide)) dX6_startFirstThatCan_54 ?_
        refine lv_iconst (v := 1) hx hb dX6_startFirstThatCan_55 (by decide) ?_
        refine lv_iadd hx hb dX6_startFirstThatCan_56 ?_
        refine bz_iast C h k17 (by decide) (kx := 2) (bz_cl 2 (by decide)) dX6_startFirstThatCan_57 (fun H locs h => ?_)
        obtain ⟨σ18, eσ18⟩ : ∃ y : bz_W, y = bz_wi σ16 (σ16.2 (σ.2 (σ.2 (σ.2 a0 0) 0) ((σ.1 (σ.2 a0 6) v2.toNatClampNeg) : Int32).toNatClampNeg) 1) 2 ((σ16.1 (σ16.2 (σ.2 (σ.2 (σ.2 a0 0) 0) ((σ.1 (σ.2 a0 6) v2.toNatClampNeg) : Int32).toNatClampNeg) 1) 2) + 1) := ⟨_, rfl⟩
        rw [← eσ18] at h
        have hF := lt_u hF σ18 eσ18
        refine lv_aload_n hx hb dX6_startFirstThatCan_58 rfl (lv_at hl 1 rfl) ?_
        refine gf_6_0 C h ka0 iz_X6 (List.mem_cons_of_mem _ wd_1_12) dX6_startFirstThatCan_59 (fun k19 => ?_)
        refine lv_aload_n hx hb dX6_startFirstThatCan_62 rfl (lv_at hl 0 rfl) ?_
        refine lv_iconst (v := 1) hx hb dX6_startFirstThatCan_63 (by decide) ?_
        obtain ⟨r20, σ21, qr20, hF⟩ := bd_u hF
        refine bz_callV (rest := []) (st1 := []) C h (As := [.ref (σ.2 (σ.2 (σ.2 a0 0) 0) ((σ.1 (σ.2 a0 6) v2.toNatClampNeg) : Int32).toNatClampNeg), .int 1]) (o := none) (τ := σ21) (c_X3_note (l := l) k19 k9 (res := (r20, σ21)) qr20) k19 (by decide) (ci := 3) rfl (cwV 2 hts (bz_gV wd_9_19 wd_9_20 wd_9_21 wd_1_11 wd_9_22) rfl rfl rfl (by decide +kernel) ⟨Nat.le_of_ble_eq_true rfl, Nat.le_of_ble_eq_true rfl⟩) rfl hl.1 rfl (by decide) ⟨Nat.le_of_ble_eq_true rfl, Nat.le_of_ble_eq_true rfl⟩ dX6_startFirstThatCan_64 rfl (fun H locs h => ?_)
        refine lv_aload_n hx hb dX6_startFirstThatCan_67 rfl (lv_at hl 1 rfl) ?_
        refine lv_iload_n hx hb dX6_startFirstThatCan_68 rfl (lv_at hl 3 rfl) ?_
        obtain ⟨r22, σ23, qr22, hF⟩ := bd_u hF
        refine bz_callV (rest := []) (st1 := []) C h (As := [.int v2]) (o := none) (τ := σ23) (c_X6_passOver (l := l) ka0 (res := (r22, σ23)) qr22) ka0 (by decide) (ci := 6) rfl (cwV 1 hts (bz_gV wd_19_6 wd_19_7 wd_19_8 wd_1_2 wd_19_9) rfl rfl rfl (by decide +kernel) ⟨Nat.le_of_ble_eq_true rfl, Nat.le_of_ble_eq_true rfl⟩) rfl hl.1 rfl (by decide) ⟨Nat.le_of_ble_eq_true rfl, Nat.le_of_ble_eq_true rfl⟩ dX6_startFirstThatCan_69 rfl (fun H locs h => ?_)
        refine lv_iconst (v := 1) hx hb dX6_startFirstThatCan_72 (by decide) ?_
        exact bz_zret C h hlocks hr (by decide) hF dX6_startFirstThatCan_73
