set_option maxHeartbeats 4000000 in
set_option maxRecDepth 100000 in
theorem c_X7_carryOut {l : Launch} {G : bz_G} {σ : bz_W} {a0 : Nat} {x1_ : Int32} {x2_ : Int32} {x3_ : Int32} (ka0 : bz_k G a0 = (8, 0)) {res : Int32 × bz_W} (hF : f_X7_carryOut σ a0 x1_ x2_ x3_ = some res) : bz_M l yX7_carryOut wz_X7_carryOut 2 45 G σ [.ref a0, .int x1_, .int x2_, .int x3_] none res.2 := by
  refine bz_mk (cc := cX7_carryOut) (maxL := 4) (ret := none) (own := RX7) (by decide) rfl rfl (Nat.le_of_ble_eq_true rfl) ?_
  intro p e s m args below meth c ls C hlocks hr h hl
  have hx := C.1
  have hb := C.2.1
  have hts := C.2.2.2.2.1
  have hl : lv_has ls 4 [(0, .ref a0), (1, .int x1_), (2, .int x2_), (3, .int x3_)] := hl
  obtain ⟨H, eH⟩ : ∃ y, y = s.heap := ⟨_, rfl⟩
  obtain ⟨locs, el⟩ : ∃ y : List Loc, y = [] := ⟨_, rfl⟩
  rw [← el, ← eH] at h ⊢
  unfold f_X7_carryOut at hF
  refine lv_iload_n hx hb dX7_carryOut_0 rfl (lv_at hl 1 rfl) ?_
  by_cases c1 : x1_ = 0
  · have hF := it_t hF c1
    refine lv_tableIn (tgt := 32) hx hb dX7_carryOut_1 (by rw [c1]; decide) (by rw [c1]; decide) (by rw [c1]; rfl) (by decide) ?_
    refine lv_aload_n hx hb dX7_carryOut_32 rfl (lv_at hl 0 rfl) ?_
    refine lv_iload_n hx hb dX7_carryOut_33 rfl (lv_at hl 2 rfl) ?_
    refine lv_iconst (v := 5) hx hb dX7_carryOut_34 (by decide) ?_
    refine lv_iconst (v := 1) hx hb dX7_carryOut_35 (by decide) ?_
    obtain ⟨r2, σ3, qr2, hF⟩ := bd_u hF
    refine bz_callV (rest := []) (st1 := []) C h (As := [.int x2_, .int 5, .int 1]) (o := none) (τ := σ3) (c_X7_put (l := l) ka0 (res := (r2, σ3)) qr2) ka0 (by decide) (ci := 7) rfl (cwV 3 hts (bz_gV wd_8_18 wd_8_19 wd_8_20 wd_1_5 wd_8_21) rfl rfl rfl (by decide +kernel) ⟨Nat.le_of_ble_eq_true rfl, Nat.le_of_ble_eq_true rfl⟩) rfl hl.1 rfl (by decide) ⟨Nat.zero_le _, Nat.zero_le _⟩ dX7_carryOut_36 rfl (fun H locs h => ?_)
    refine lv_aload_n hx hb dX7_carryOut_39 rfl (lv_at hl 0 rfl) ?_
    refine lv_iload_n hx hb dX7_carryOut_40 rfl (lv_at hl 2 rfl) ?_
    refine lv_bipush (v := 9) hx hb dX7_carryOut_41 (by decide) ?_
    refine lv_aload_n hx hb dX7_carryOut_43 rfl (lv_at hl 0 rfl) ?_
    refine gf_7_0 C h ka0 iz_X7 (List.mem_cons_of_mem _ wd_4_13) dX7_carryOut_44 (fun k4 => ?_)
    refine lv_iconst (v := 1) hx hb dX7_carryOut_47 (by decide) ?_
    refine bz_iald C h k4 (by decide) (kx := 1) (bz_cl 1 (by decide)) dX7_carryOut_48 ?_
    obtain ⟨r5, σ6, qr5, hF⟩ := bd_u hF
    refine bz_callV (rest := []) (st1 := []) C h (As := [.int x2_, .int 9, .int (σ3.1 (σ3.2 a0 0) 1)]) (o := none) (τ := σ6) (c_X7_put (l := l) ka0 (res := (r5, σ6)) qr5) ka0 (by decide) (ci := 7) rfl (cwV 3 hts (bz_gV wd_8_18 wd_8_19 wd_8_20 wd_1_5 wd_8_21) rfl rfl rfl (by decide +kernel) ⟨Nat.le_of_ble_eq_true rfl, Nat.le_of_ble_eq_true rfl⟩) rfl hl.1 rfl (by decide) ⟨Nat.zero_le _, Nat.zero_le _⟩ dX7_carryOut_49 rfl (fun H locs h => ?_)
    refine lv_goto (tgt := 126) hx hb dX7_carryOut_52 (by decide) ?_
    exact bz_vret C h hlocks hr hF dX7_carryOut_126
  have hF := it_f hF c1
  by_cases c7 : x1_ = 1
  · have hF := it_t hF c7
    refine lv_tableIn (tgt := 55) hx hb dX7_carryOut_1 (by rw [c7]; decide) (by rw [c7]; decide) (by rw [c7]; rfl) (by decide) ?_
    refine lv_aload_n hx hb dX7_carryOut_55 rfl (lv_at hl 0 rfl) ?_
    refine lv_iload_n hx hb dX7_carryOut_56 rfl (lv_at hl 2 rfl) ?_
    refine lv_iconst (v := 5) hx hb dX7_carryOut_57 (by decide) ?_
    refine lv_iconst (v := 0) hx hb dX7_carryOut_58 (by decide) ?_
    obtain ⟨r8, σ9, qr8, hF⟩ := bd_u hF
    refine bz_callV (rest := []) (st1 := []) C h (As := [.int x2_, .int 5, .int 0]) (o := none) (τ := σ9) (c_X7_put (l := l) ka0 (res := (r8, σ9)) qr8) ka0 (by decide) (ci := 7) rfl (cwV 3 hts (bz_gV wd_8_18 wd_8_19 wd_8_20 wd_1_5 wd_8_21) rfl rfl rfl (by decide +kernel) ⟨Nat.le_of_ble_eq_true rfl, Nat.le_of_ble_eq_true rfl⟩) rfl hl.1 rfl (by decide) ⟨Nat.zero_le _, Nat.zero_le _⟩ dX7_carryOut_59 rfl (fun H locs h => ?_)
    refine lv_aload_n hx hb dX7_carryOut_62 rfl (lv_at hl 0 rfl) ?_
    refine lv_iload_n hx hb dX7_carryOut_63 rfl (lv_at hl 2 rfl) ?_
    refine lv_iconst (v := 3) hx hb dX7_carryOut_64 (by decide) ?_
    obtain ⟨r10, σ11, qr10, hF⟩ := bd_u hF
    refine bz_callV (rest := []) (st1 := []) C h (As := [.int x2_, .int 3]) (o := none) (τ := σ11) (c_X7_note (l := l) ka0 (res := (r10, σ11)) qr10) ka0 (by decide) (ci := 7) rfl (cwV 2 hts (bz_gV wd_14_6 wd_14_7 wd_14_8 wd_1_5 wd_14_9) rfl rfl rfl (by decide +kernel) ⟨Nat.le_of_ble_eq_true rfl, Nat.le_of_ble_eq_true rfl⟩) rfl hl.1 rfl (by decide) ⟨Nat.zero_le _, Nat.zero_le _⟩ dX7_carryOut_65 rfl (fun H locs h => ?_)
    refine lv_goto (tgt := 126) hx hb dX7_carryOut_68 (by decide) ?_
    exact bz_vret C h hlocks hr hF dX7_carryOut_126
  have hF := it_f hF c7
  by_cases c12 : x1_ = 2
  · have hF := it_t hF c12
    refine lv_tableIn (tgt := 71) hx hb dX7_carryOut_1 (by rw [c12]; decide) (by rw [c12]; decide) (by rw [c12]; rfl) (by decide) ?_
    refine lv_aload_n hx hb dX7_carryOut_71 rfl (lv_at hl 0 rfl) ?_
    refine lv_iload_n hx hb dX7_carryOut_72 rfl (lv_at hl 2 rfl) ?_
    refine lv_bipush (v := 7) hx hb dX7_carryOut_73 (by decide) ?_
    refine lv_iload_n hx hb dX7_carryOut_75 rfl (lv_at hl 3 rfl) ?_
    obtain ⟨r13, σ14, qr13, hF⟩ := bd_u hF
    refine bz_callV (rest := []) (st1 := []) C h (As := [.int x2_, .int 7, .int x3_]) (o := none) (τ := σ14) (c_X7_put (l := l) ka0 (res := (r13, σ14)) qr13) ka0 (by decide) (ci := 7) rfl (cwV 3 hts (bz_gV wd_8_18 wd_8_19 wd_8_20 wd_1_5 wd_8_21) rfl rfl rfl (by decide +kernel) ⟨Nat.le_of_ble_eq_true rfl, Nat.le_of_ble_eq_true rfl⟩) rfl hl.1 rfl (by decide) ⟨Nat.zero_le _, Nat.zero_le _⟩ dX7_carryOut_76 rfl (fun H locs h => ?_)
    refine lv_iload_n hx hb dX7_carryOut_79 rfl (lv_at hl 3 rfl) ?_
    refine lv_if_eq (tgt := 126) hx hb dX7_carryOut_80 (by decide) (fun c15 => ?_) (fun c15 => ?_)
    · have hF := it_t hF c15
      exact bz_vret C h hlocks hr hF dX7_carryOut_126
    · have hF := it_f hF c15
      refine lv_aload_n hx hb dX7_carryOut_83 rfl (lv_at hl 0 rfl) ?_
      refine lv_iload_n hx hb dX7_carryOut_84 rfl (lv_at hl 2 rfl) ?_
      refine lv_iconst (v := 5) hx hb dX7_carryOut_85 (by decide) ?_
      obtain ⟨r16, σ17, qr16, hF⟩ := bd_u hF
      refine bz_callV (rest := []) (st1 := [.int r16]) C h (As := [.int x2_, .int 5]) (o := some (.int r16)) (τ := σ17) (c_X7_of (l := l) ka0 (res := (r16, σ17)) qr16) ka0 (by decide) (ci := 7) rfl (cwV 2 hts (bz_gV wd_9_15 wd_9_16 wd_9_17 wd_1_5 wd_9_18) rfl rfl rfl (by decide +kernel) ⟨Nat.le_of_ble_eq_true rfl, Nat.le_of_ble_eq_true rfl⟩) rfl hl.1 rfl (by decide) ⟨Nat.zero_le _, Nat.zero_le _⟩ dX7_carryOut_86 rfl (fun H locs h => ?_)
      refine lv_iconst (v := 2) hx hb dX7_carryOut_89 (by decide) ?_
      refine lv_icmp_ne (tgt := 126) hx hb dX7_carryOut_90 (by decide) (fun c18 => ?_) (fun c18 => ?_)
      · have hF := it_f hF c18
        exact bz_vret C h hlocks hr hF dX7_carryOut_126
      · have hF := it_t hF c18
        refine lv_aload_n hx hb dX7_carryOut_93 rfl (lv_at hl 0 rfl) ?_
        refine lv_iload_n hx hb dX7_carryOut_94 rfl (lv_at hl 2 rfl) ?_
        refine lv_iconst (v := 4) hx hb dX7_carryOut_95 (by decide) ?_
        obtain ⟨r19, σ20, qr19, hF⟩ := bd_u hF
        refine bz_callV (rest := []) (st1 := []) C h (As := [.int x2_, .int 4]) (o := none) (τ := σ20) (c_X7_trip (l := l) ka0 (res := (r19, σ20)) qr19) ka0 (by decide) (ci := 7) rfl (cwV 2 hts (bz_gV wd_14_10 wd_14_11 wd_14_12 wd_1_5 wd_14_13) rfl rfl rfl (by decide +kernel) ⟨Nat.le_of_ble_eq_true rfl, Nat.le_of_ble_eq_true rfl⟩) rfl hl.1 rfl (by decide) ⟨Nat.zero_le _, Nat.zero_le _⟩ dX7_carryOut_96 rfl (fun H locs h => ?_)
        refine lv_goto (tgt := 126) hx hb dX7_carryOut_99 (by decide) ?_
        exact bz_vret C h hlocks hr hF dX7_carryOut_126
  have hF := it_f hF c12
  by_cases c21 : x1_ = 3
  · have hF := it_t hF c21
    refine lv_tableIn (tgt := 102) hx hb dX7_carryOut_1 (by rw [c21]; decide) (by rw [c21]; decide) (by rw [c21]; rfl) (by decide) ?_
    refine lv_aload_n hx hb dX7_carryOut_102 rfl (lv_at hl 0 rfl) ?_
    refine lv_iload_n hx hb dX7_carryOut_103 rfl (lv_at hl 2 rfl) ?_
    refine lv_iconst (v := 5) hx hb dX7_carryOut_104 (by decide) ?_
    refine lv_iconst (v := 0) hx hb dX7_carryOut_105 (by decide) ?_
    obtain ⟨r22, σ23, qr22, hF⟩ := bd_u hF
    refine bz_callV (rest := []) (st1 := []) C h (As := [.int x2_, .int 5, .int 0]) (o := none) (τ := σ23) (c_X7_put (l := l) ka0 (res := (r22, σ23)) qr22) ka0 (by decide) (ci := 7) rfl (cwV 3 hts (bz_gV wd_8_18 wd_8_19 wd_8_20 wd_1_5 wd_8_21) rfl rfl rfl (by decide +kernel) ⟨Nat.le_of_ble_eq_true rfl, Nat.le_of_ble_eq_true rfl⟩) rfl hl.1 rfl (by decide) ⟨Nat.zero_le _, Nat.zero_le _⟩ dX7_carryOut_106 rfl (fun H locs h => ?_)
    refine lv_aload_n hx hb dX7_carryOut_109 rfl (lv_at hl 0 rfl) ?_
    refine lv_iload_n hx hb dX7_carryOut_110 rfl (lv_at hl 2 rfl) ?_
    refine lv_bipush (v := 6) hx hb dX7_carryOut_111 (by decide) ?_
    obtain ⟨r24, σ25, qr24, hF⟩ := bd_u hF
    refine bz_callV (rest := []) (st1 := []) C h (As := [.int x2_, .int 6]) (o := none) (τ := σ25) (c_X7_note (l := l) ka0 (res := (r24, σ25)) qr24) ka0 (by decide) (ci := 7) rfl (cwV 2 hts (bz_gV wd_14_6 wd_14_7 wd_14_8 wd_1_5 wd_14_9) rfl rfl rfl (by decide +kernel) ⟨Nat.le_of_ble_eq_true rfl, Nat.le_of_ble_eq_true rfl⟩) rfl hl.1 rfl (by decide) ⟨Nat.zero_le _, Nat.zero_le _⟩ dX7_carryOut_113 rfl (fun H locs h => ?_)
    refine lv_goto (tgt := 126) hx hb dX7_carryOut_116 (by decide) ?_
    exact bz_vret C h hlocks hr hF dX7_carryOut_126
  have hF := it_f hF c21
  refine lv_tableOut (tgt := 119) hx hb dX7_carryOut_1 (bz_out4 c1 c7 c12 c21) (by decide) ?_
  refine lv_aload_n hx hb dX7_carryOut_119 rfl (lv_at hl 0 rfl) ?_
  refine gf_7_0 C h ka0 iz_X7 (List.mem_cons_of_mem _ wd_4_13) dX7_carryOut_120 (fun k26 => ?_)
  refine lv_iconst (v := 3) hx hb dX7_carryOut_123 (by decide) ?_
  refine lv_iload_n hx hb dX7_carryOut_124 rfl (lv_at hl 2 rfl) ?_
  refine bz_iast C h k26 (by decide) (kx := 3) (bz_cl 3 (by decide)) dX7_carryOut_125 (fun H locs h => ?_)
  obtain ⟨σ27, eσ27⟩ : ∃ y : bz_W, y = bz_wi σ (σ.2 a0 0) 3 x2_ := ⟨_, rfl⟩
  rw [← eσ27] at h
  have hF := lt_u hF σ27 eσ27
  exact bz_vret C h hlocks hr hF dX7_carryOut_126
set_option maxHeartbeats 4000000 in
set_option maxRecDepth 100000 in
theorem c_X7_orders {l : Launch} {G : bz_G} {σ : bz_W} {a0 : Nat} {x1_ : Int32} {x2_ : Int32} {x3_ : Int32} (ka0 : bz_k G a0 = (8, 0)) {res : Int32 × bz_W} (hF : f_X7_orders σ a0 x1_ x2_ x3_ = some res) : bz_M l yX7_orders wz_X7_orders 3 68 G σ [.ref a0, .int x1_, .int x2_, .int x3_] (some (.int res.1)) res.2 := by
  refine bz_mk (cc := cX7_orders) (maxL := 5) (ret := (some .int)) (own := RX7) (by decide) rfl rfl (Nat.le_of_ble_eq_true rfl) ?_
  intro p e s m args below meth c ls C hlocks hr h hl
  have hx := C.1
  have hb := C.2.1
  have hts := C.2.2.2.2.1
  have hl : lv_has ls 5 [(0, .ref a0), (1, .int x1_), (2, .int x2_), (3, .int x3_)] := hl
  obtain ⟨H, eH⟩ : ∃ y, y = s.heap := ⟨_, rfl⟩
  obtain ⟨locs, el⟩ : ∃ y : List Loc, y = [] := ⟨_, rfl⟩
  rw [← el, ← eH] at h ⊢
  unfold f_X7_orders at hF
  refine lv_aload_n hx hb dX7_orders_0 rfl (lv_at hl 0 rfl) ?_
  refine lv_iload_n hx hb dX7_orders_1 rfl (lv_at hl 1 rfl) ?_
  refine lv_iload_n hx hb dX7_orders_2 rfl (lv_at hl 2 rfl) ?_
  refine lv_iload_n hx hb dX7_orders_3 rfl (lv_at hl 3 rfl) ?_
  obtain ⟨r1, σ2, qr1, hF⟩ := bd_u hF
  refine bz_callV (rest := []) (st1 := [.int r1]) C h (As := [.int x1_, .int x2_, .int x3_]) (o := some (.int r1)) (τ := σ2) (c_X7_wrongIn (l := l) ka0 (res := (r1, σ2)) qr1) ka0 (by decide) (ci := 7) rfl (cwV 3 hts (bz_gV wd_13_22 wd_13_23 wd_14_0 wd_1_5 wd_14_1) rfl rfl rfl (by decide +kernel) ⟨Nat.le_of_ble_eq_true rfl, Nat.le_of_ble_eq_true rfl⟩) rfl hl.1 rfl (by decide) ⟨Nat.zero_le _, Nat.zero_le _⟩ dX7_orders_4 rfl (fun H locs h => ?_)
  refine lv_istore (lv' := [(4, .int r1), (0, .ref a0), (1, .int x1_), (2, .int x2_), (3, .int x3_)]) hx hb dX7_orders_7 hl (by decide) rfl (fun ls hl => ?_)
  refine lv_iload hx hb dX7_orders_9 (lv_at hl 0 rfl) ?_
  refine lv_if_le (tgt := 21) hx hb dX7_orders_11 (by decide) (fun c3 => ?_) (fun c3 => ?_)
  · have hF := it_t hF c3
    refine lv_iload hx hb dX7_orders_21 (lv_at hl 0 rfl) ?_
    refine lv_if_ge (tgt := 29) hx hb dX7_orders_23 (by decide) (fun c4 => ?_) (fun c4 => ?_)
    · have hF := it_t hF c4
      refine lv_aload_n hx hb dX7_orders_29 rfl (lv_at hl 1 rfl) ?_
      obtain ⟨r5, σ6, qr5, hF⟩ := bd_u hF
      refine bz_callV (rest := []) (st1 := []) C h (As := []) (o := none) (τ := σ6) (c_X7_record (l := l) ka0 (res := (r5, σ6)) qr5) ka0 (by decide) (ci := 7) rfl (cwV 0 hts (bz_gV wd_8_13 wd_8_14 wd_8_15 wd_1_5 wd_8_16) rfl rfl rfl (by decide +kernel) ⟨Nat.le_of_ble_eq_true rfl, Nat.le_of_ble_eq_true rfl⟩) rfl hl.1 rfl (by decide) ⟨Nat.zero_le _, Nat.zero_le _⟩ dX7_orders_30 rfl (fun H locs h => ?_)
      refine lv_aload_n hx hb dX7_orders_33 rfl (lv_at hl 1 rfl) ?_
      refine lv_iload_n hx hb dX7_orders_34 rfl (lv_at hl 2 rfl) ?_
      refine lv_iload_n hx hb dX7_orders_35 rfl (lv_at hl 3 rfl) ?_
      refine lv_iload_n hx hb dX7_orders_36 rfl (lv_at hl 4 rfl) ?_
      obtain ⟨r7, σ8, qr7, hF⟩ := bd_u hF
      refine bz_callV (rest := []) (st1 := []) C h (As := [.int x1_, .int x2_, .int x3_]) (o := none) (τ := σ8) (c_X7_carryOut (l := l) ka0 (res := (r7, σ8)) qr7) ka0 (by decide) (ci := 7) rfl (cwV 3 hts (bz_gV wd_14_2 wd_14_3 wd_14_4 wd_1_5 wd_14_5) rfl rfl rfl (by decide +kernel) ⟨Nat.le_of_ble_eq_true rfl, Nat.le_of_ble_eq_true rfl⟩) rfl hl.1 rfl (by decide) ⟨Nat.zero_le _, Nat.zero_le _⟩ dX7_orders_37 rfl (fun H locs h => ?_)
      refine lv_iconst (v := 0) hx hb dX7_orders_40 (by decide) ?_
      exact bz_iret C h hlocks hr hF dX7_orders_41
    · have hF := it_f hF c4
      refine lv_iload hx hb dX7_orders_26 (lv_at hl 0 rfl) ?_
      exact bz_iret C h hlocks hr hF dX7_orders_28
  · have hF := it_f hF c3
    refine lv_aload_n hx hb dX7_orders_14 rfl (lv_at hl 1 rfl) ?_
    refine lv_iload hx hb dX7_orders_15 (lv_at hl 0 rfl) ?_
    obtain ⟨r9, σ10, qr9, hF⟩ := bd_u hF
    refine bz_callV (rest := []) (st1 := [.int r9]) C h (As := [.int r1]) (o := some (.int r9)) (τ := σ10) (c_X7_refuse (l := l) ka0 (res := (r9, σ10)) qr9) ka0 (by decide) (ci := 7) rfl (cwV 1 hts (bz_gV wd_8_8 wd_8_9 wd_8_10 wd_1_5 wd_8_11) rfl rfl rfl (by decide +kernel) ⟨Nat.le_of_ble_eq_true rfl, Nat.le_of_ble_eq_true rfl⟩) rfl hl.1 rfl (by decide) ⟨Nat.zero_le _, Nat.zero_le _⟩ dX7_orders_17 rfl (fun H locs h => ?_)
    exact bz_iret C h hlocks hr hF dX7_orders_20
set_option maxHeartbeats 4000000 in
set_option maxRecDepth 100000 in
theorem c_X7_request {l : Launch} {G : bz_G} {σ : bz_W} {a0 : Nat} {x1_ : Int32} (ka0 : bz_k G a0 = (8, 0)) {res : Int32 × bz_W} (hF : f_X7_request σ a0 x1_ = some res) : bz_M l yX7_request wz_X7_request 4 92 G σ [.ref a0, .int x1_] (some (.int res.1)) res.2 := by
  refine bz_mk (cc := cX7_request) (maxL := 3) (ret := (some .int)) (own := RX7) (by decide) rfl rfl (Nat.le_of_ble_eq_true rfl) ?_
  intro p e s m args below meth c ls C hlocks hr h hl
  have hx := C.1
  have hb := C.2.1
  have hts := C.2.2.2.2.1
  have hl : lv_has ls 3 [(0, .ref a0), (1, .int x1_)] := hl
  obtain ⟨H, eH⟩ : ∃ y, y = s.heap := ⟨_, rfl⟩
  obtain ⟨locs, el⟩ : ∃ y : List Loc, y = [] := ⟨_, rfl⟩
  rw [← el, ← eH] at h ⊢
  unfold f_X7_request at hF
  refine lv_aload_n hx hb dX7_request_0 rfl (lv_at hl 0 rfl) ?_
  refine lv_iconst (v := 0) hx hb dX7_request_1 (by decide) ?_
  refine lv_iload_n hx hb dX7_request_2 rfl (lv_at hl 1 rfl) ?_
  refine lv_iconst (v := 0) hx hb dX7_request_3 (by decide) ?_
  obtain ⟨r1, σ2, qr1, hF⟩ := bd_u hF
  refine bz_callV (rest := []) (st1 := [.int r1]) C h (As := [.int 0, .int x1_, .int 0]) (o := some (.int r1)) (τ := σ2) (c_X7_orders (l := l) ka0 (res := (r1, σ2)) qr1) ka0 (by decide) (ci := 7) rfl (cwV 3 hts (bz_gV wd_13_18 wd_13_19 wd_13_20 wd_1_5 wd_13_21) rfl rfl rfl (by decide +kernel) ⟨Nat.le_of_ble_eq_true rfl, Nat.le_of_ble_eq_true rfl⟩) rfl hl.1 rfl (by decide) ⟨Nat.zero_le _, Nat.zero_le _⟩ dX7_request_4 rfl (fun H locs h => ?_)
  refine lv_istore_n (lv' := [(2, .int r1), (0, .ref a0), (1, .int x1_)]) hx hb dX7_request_7 rfl hl (by decide) rfl (fun ls hl => ?_)
  refine lv_iload_n hx hb dX7_request_8 rfl (lv_at hl 0 rfl) ?_
  refine lv_if_ge (tgt := 16) hx hb dX7_request_9 (by decide) (fun c3 => ?_) (fun c3 => ?_)
  · have hF := it_t hF c3
    refine lv_aload_n hx hb dX7_request_16 rfl (lv_at hl 1 rfl) ?_
    refine lv_iload_n hx hb dX7_request_17 rfl (lv_at hl 2 rfl) ?_
    obtain ⟨r4, σ5, qr4, hF⟩ := bd_u hF
    refine bz_callV (rest := []) (st1 := [.int r4]) C h (As := [.int x1_]) (o := some (.int r4)) (τ := σ5) (c_X7_placeOf (l := l) ka0 (res := (r4, σ5)) qr4) ka0 (by decide) (ci := 7) rfl (cwV 1 hts (bz_gV wd_14_18 wd_14_19 wd_14_20 wd_1_5 wd_14_21) rfl rfl rfl (by decide +kernel) ⟨Nat.le_of_ble_eq_true rfl, Nat.le_of_ble_eq_true rfl⟩) rfl hl.1 rfl (by decide) ⟨Nat.zero_le _, Nat.zero_le _⟩ dX7_request_18 rfl (fun H locs h => ?_)
    exact bz_iret C h hlocks hr hF dX7_request_21
  · have hF := it_f hF c3
    refine lv_iload_n hx hb dX7_request_12 rfl (lv_at hl 0 rfl) ?_
    refine lv_goto (tgt := 21) hx hb dX7_request_13 (by decide) ?_
    exact bz_iret C h hlocks hr hF dX7_request_21
set_option maxHeartbeats 4000000 in
set_option maxRecDepth 100000 in
theorem c_X7_stop {l : Launch} {G : bz_G} {σ : bz_W} {a0 : Nat} {x1_ : Int32} (ka0 : bz_k G a0 = (8, 0)) {res : Int32 × bz_W} (hF : f_X7_stop σ a0 x1_ = some res) : bz_M l yX7_stop wz_X7_stop 4 92 G σ [.ref a0, .int x1_] (some (.int res.1)) res.2 := by
  refine bz_mk (cc := cX7_stop) (maxL := 4) (ret := (some .int)) (own := RX7) (by decide) rfl rfl (Nat.le_of_ble_eq_true rfl) ?_
  intro p e s m args below meth c ls C hlocks hr h hl
  have hx := C.1
  have hb := C.2.1
  have hts := C.2.2.2.2.1
  have hl : lv_has ls 4 [(0, .ref a0), (1, .int x1_)] := hl
  obtain ⟨H, eH⟩ : ∃ y, y = s.heap := ⟨_, rfl⟩
  obtain ⟨locs, el⟩ : ∃ y : List Loc, y = [] := ⟨_, rfl⟩
  rw [← el, ← eH] at h ⊢
  unfold f_X7_stop at hF
  refine lv_aload_n hx hb dX7_stop_0 rfl (lv_at hl 0 rfl) ?_
  refine lv_iload_n hx hb dX7_stop_1 rfl (lv_at hl 1 rfl) ?_
  obtain ⟨r1, σ2, qr1, hF⟩ := bd_u hF
  refine bz_callV (rest := []) (st1 := [.int r1]) C h (As := [.int x1_]) (o := some (.int r1)) (τ := σ2) (c_X7_noMotor (l := l) ka0 (res := (r1, σ2)) qr1) ka0 (by decide) (ci := 7) rfl (cwV 1 hts (bz_gV wd_9_11 wd_9_12 wd_9_13 wd_1_5 wd_9_14) rfl rfl rfl (by decide +kernel) ⟨Nat.le_of_ble_eq_true rfl, Nat.le_of_ble_eq_true rfl⟩) rfl hl.1 rfl (by decide) ⟨Nat.zero_le _, Nat.zero_le _⟩ dX7_stop_2 rfl (fun H locs h => ?_)
  obtain ⟨j5, ej5, hF⟩ := lt_j hF
  have hj5 : ∀ (y3 : Int32) (σ4 : bz_W) (H : Heap) (locs : List Loc) (ls : Array Slot), j5 y3 σ4 = some res → bz_H G s σ4 H locs → lv_has ls 4 [(0, .ref a0), (1, .int x1_)] → W p l e ({ frames := 4, cells := 0, slots := 0, locals := 92 } : Room) s m args below meth c H locs 0 0 (MQ below (bz_Qc G (some (.int res.1)) res.2) args s 0 0 (bz_A G)) (F0 m 18 ls [.int y3]) := by
      intro y3 σ4 H locs ls hF h hl
      subst ej5
      refine lv_istore_n (lv' := [(2, .int y3), (0, .ref a0), (1, .int x1_)]) hx hb dX7_stop_18 rfl hl (by decide) rfl (fun ls hl => ?_)
      refine lv_aload_n hx hb dX7_stop_19 rfl (lv_at hl 1 rfl) ?_
      refine lv_iconst (v := 1) hx hb dX7_stop_20 (by decide) ?_
      refine lv_iload_n hx hb dX7_stop_21 rfl (lv_at hl 2 rfl) ?_
      refine lv_iconst (v := 0) hx hb dX7_stop_22 (by decide) ?_
      obtain ⟨r6, σ7, qr6, hF⟩ := bd_u hF
      refine bz_callV (rest := []) (st1 := [.int r6]) C h (As := [.int 1, .int x1_, .int 0]) (o := some (.int r6)) (τ := σ7) (c_X7_orders (l := l) ka0 (res := (r6, σ7)) qr6) ka0 (by decide) (ci := 7) rfl (cwV 3 hts (bz_gV wd_13_18 wd_13_19 wd_13_20 wd_1_5 wd_13_21) rfl rfl rfl (by decide +kernel) ⟨Nat.le_of_ble_eq_true rfl, Nat.le_of_ble_eq_true rfl⟩) rfl hl.1 rfl (by decide) ⟨Nat.zero_le _, Nat.zero_le _⟩ dX7_stop_23 rfl (fun H locs h => ?_)
      refine lv_istore_n (lv' := [(3, .int r6), (2, .int y3), (0, .ref a0), (1, .int x1_)]) hx hb dX7_stop_26 rfl hl (by decide) rfl (fun ls hl => ?_)
      refine lv_iload_n hx hb dX7_stop_27 rfl (lv_at hl 0 rfl) ?_
      refine lv_if_ge (tgt := 35) hx hb dX7_stop_28 (by decide) (fun c8 => ?_) (fun c8 => ?_)
      · have hF := it_t hF c8
        refine lv_iload_n hx hb dX7_stop_35 rfl (lv_at hl 1 rfl) ?_
        exact bz_iret C h hlocks hr hF dX7_stop_36
      · have hF := it_f hF c8
        refine lv_iload_n hx hb dX7_stop_31 rfl (lv_at hl 0 rfl) ?_
        refine lv_goto (tgt := 36) hx hb dX7_stop_32 (by decide) ?_
        exact bz_iret C h hlocks hr hF dX7_stop_36
  refine lv_if_eq (tgt := 12) hx hb dX7_stop_5 (by decide) (fun c9 => ?_) (fun c9 => ?_)
  · have hF := it_t hF c9
    refine lv_aload_n hx hb dX7_stop_12 rfl (lv_at hl 0 rfl) ?_
    refine lv_iload_n hx hb dX7_stop_13 rfl (lv_at hl 1 rfl) ?_
    refine lv_iconst (v := 5) hx hb dX7_stop_14 (by decide) ?_
    obtain ⟨r10, σ11, qr10, hF⟩ := bd_u hF
    refine bz_callV (rest := []) (st1 := [.int r10]) C h (As := [.int x1_, .int 5]) (o := some (.int r10)) (τ := σ11) (c_X7_of (l := l) ka0 (res := (r10, σ11)) qr10) ka0 (by decide) (ci := 7) rfl (cwV 2 hts (bz_gV wd_9_15 wd_9_16 wd_9_17 wd_1_5 wd_9_18) rfl rfl rfl (by decide +kernel) ⟨Nat.le_of_ble_eq_true rfl, Nat.le_of_ble_eq_true rfl⟩) rfl hl.1 rfl (by decide) ⟨Nat.zero_le _, Nat.zero_le _⟩ dX7_stop_15 rfl (fun H locs h => ?_)
    exact hj5 _ _ H locs ls hF h (lv_sub hl [0, 1] rfl)
  · have hF := it_f hF c9
    refine lv_iconst (v := 0) hx hb dX7_stop_8 (by decide) ?_
    refine lv_goto (tgt := 18) hx hb dX7_stop_9 (by decide) ?_
    exact hj5 _ _ H locs ls hF h (lv_sub hl [0, 1] rfl)
set_option maxHeartbeats 4000000 in
set_option maxRecDepth 100000 in
theorem c_X7_losePhases {l : Launch} {G : bz_G} {σ : bz_W} {a0 : Nat} {x1_ : Int32} {x2_ : Int32} (ka0 : bz_k G a0 = (8, 0)) {res : Int32 × bz_W} (hF : f_X7_losePhases σ a0 x1_ x2_ = some res) : bz_M l yX7_losePhases wz_X7_losePhases 4 92 G σ [.ref a0, .int x1_, .int x2_] (some (.int res.1)) res.2 := by
  refine bz_mk (cc := cX7_losePhases) (maxL := 5) (ret := (some .int)) (own := RX7) (by decide) rfl rfl (Nat.le_of_ble_eq_true rfl) ?_
  intro p e s m args below meth c ls C hlocks hr h hl
  have hx := C.1
  have hb := C.2.1
  have hts := C.2.2.2.2.1
  have hl : lv_has ls 5 [(0, .ref a0), (1, .int x1_), (2, .int x2_)] := hl
  obtain ⟨H, eH⟩ : ∃ y, y = s.heap := ⟨_, rfl⟩
  obtain ⟨locs, el⟩ : ∃ y : List Loc, y = [] := ⟨_, rfl⟩
  rw [← el, ← eH] at h ⊢
  unfold f_X7_losePhases at hF
  refine lv_aload_n hx hb dX7_losePhases_0 rfl (lv_at hl 0 rfl) ?_
  refine lv_iload_n hx hb dX7_losePhases_1 rfl (lv_at hl 1 rfl) ?_
  obtain ⟨r1, σ2, qr1, hF⟩ := bd_u hF
  refine bz_callV (rest := []) (st1 := [.int r1]) C h (As := [.int x1_]) (o := some (.int r1)) (τ := σ2) (c_X7_noMotor (l := l) ka0 (res := (r1, σ2)) qr1) ka0 (by decide) (ci := 7) rfl (cwV 1 hts (bz_gV wd_9_11 wd_9_12 wd_9_13 wd_1_5 wd_9_14) rfl rfl rfl (by decide +kernel) ⟨Nat.le_of_ble_eq_true rfl, Nat.le_of_ble_eq_true rfl⟩) rfl hl.1 rfl (by decide) ⟨Nat.zero_le _, Nat.zero_le _⟩ dX7_losePhases_2 rfl (fun H locs h => ?_)
  refine lv_if_eq (tgt := 10) hx hb dX7_losePhases_5 (by decide) (fun c3 => ?_) (fun c3 => ?_)
  · have hF := it_t hF c3
    refine lv_iload_n hx hb dX7_losePhases_10 rfl (lv_at hl 2 rfl) ?_
    refine lv_iconst (v := 0) hx hb dX7_losePhases_11 (by decide) ?_
    refine lv_bipush (v := 7) hx hb dX7_losePhases_12 (by decide) ?_
    obtain ⟨r4, σ5, qr4, hF⟩ := bd_u hF
    refine bz_callS (rest := []) (st1 := [.int r4]) C h (As := [.int x2_, .int 0, .int 7]) (o := some (.int r4)) (τ := σ5) (c_X7_in (l := l)  (res := (r4, σ5)) qr4) (va_cwS 3 hts (bz_gS wd_8_5 wd_8_6 wd_1_5 wd_8_7) rfl rfl rfl (by decide +kernel) ⟨Nat.le_of_ble_eq_true rfl, Nat.le_of_ble_eq_true rfl⟩) rfl hl.1 rfl (by decide) ⟨Nat.zero_le _, Nat.zero_le _⟩ dX7_losePhases_14 rfl (fun H locs h => ?_)
    refine lv_if_ne (tgt := 23) hx hb dX7_losePhases_17 (by decide) (fun c6 => ?_) (fun c6 => ?_)
    · have hF := it_f hF c6
      refine lv_aload_n hx hb dX7_losePhases_23 rfl (lv_at hl 0 rfl) ?_
      refine lv_iload_n hx hb dX7_losePhases_24 rfl (lv_at hl 1 rfl) ?_
      refine lv_bipush (v := 7) hx hb dX7_losePhases_25 (by decide) ?_
      obtain ⟨r7, σ8, qr7, hF⟩ := bd_u hF
      refine bz_callV (rest := []) (st1 := [.int r7]) C h (As := [.int x1_, .int 7]) (o := some (.int r7)) (τ := σ8) (c_X7_of (l := l) ka0 (res := (r7, σ8)) qr7) ka0 (by decide) (ci := 7) rfl (cwV 2 hts (bz_gV wd_9_15 wd_9_16 wd_9_17 wd_1_5 wd_9_18) rfl rfl rfl (by decide +kernel) ⟨Nat.le_of_ble_eq_true rfl, Nat.le_of_ble_eq_true rfl⟩) rfl hl.1 rfl (by decide) ⟨Nat.zero_le _, Nat.zero_le _⟩ dX7_losePhases_27 rfl (fun H locs h => ?_)
      refine lv_istore_n (lv' := [(3, .int r7), (0, .ref a0), (1, .int x1_), (2, .int x2_)]) hx hb dX7_losePhases_30 rfl hl (by decide) rfl (fun ls hl => ?_)
      refine lv_aload_n hx hb dX7_losePhases_31 rfl (lv_at hl 1 rfl) ?_
      refine lv_iconst (v := 2) hx hb dX7_losePhases_32 (by decide) ?_
      refine lv_iload_n hx hb dX7_losePhases_33 rfl (lv_at hl 2 rfl) ?_
      refine lv_iload_n hx hb dX7_losePhases_34 rfl (lv_at hl 3 rfl) ?_
      obtain ⟨r9, σ10, qr9, hF⟩ := bd_u hF
      refine bz_callV (rest := []) (st1 := [.int r9]) C h (As := [.int 2, .int x1_, .int x2_]) (o := some (.int r9)) (τ := σ10) (c_X7_orders (l := l) ka0 (res := (r9, σ10)) qr9) ka0 (by decide) (ci := 7) rfl (cwV 3 hts (bz_gV wd_13_18 wd_13_19 wd_13_20 wd_1_5 wd_13_21) rfl rfl rfl (by decide +kernel) ⟨Nat.le_of_ble_eq_true rfl, Nat.le_of_ble_eq_true rfl⟩) rfl hl.1 rfl (by decide) ⟨Nat.zero_le _, Nat.zero_le _⟩ dX7_losePhases_35 rfl (fun H locs h => ?_)
      refine lv_istore (lv' := [(4, .int r9), (3, .int r7), (0, .ref a0), (1, .int x1_), (2, .int x2_)]) hx hb dX7_losePhases_38 hl (by decide) rfl (fun ls hl => ?_)
      refine lv_iload hx hb dX7_losePhases_40 (lv_at hl 0 rfl) ?_
      refine lv_if_ge (tgt := 50) hx hb dX7_losePhases_42 (by decide) (fun c11 => ?_) (fun c11 => ?_)
      · have hF := it_t hF c11
        refine lv_iload_n hx hb dX7_losePhases_50 rfl (lv_at hl 1 rfl) ?_
        exact bz_iret C h hlocks hr hF dX7_losePhases_51
      · have hF := it_f hF c11
        refine lv_iload hx hb dX7_losePhases_45 (lv_at hl 0 rfl) ?_
        refine lv_goto (tgt := 51) hx hb dX7_losePhases_47 (by decide) ?_
        exact bz_iret C h hlocks hr hF dX7_losePhases_51
    · have hF := it_t hF c6
      refine lv_bipush (v := (-2)) hx hb dX7_losePhases_20 (by decide) ?_
      exact bz_iret C h hlocks hr hF dX7_losePhases_22
  · have hF := it_f hF c3
    refine lv_iconst (v := (-1)) hx hb dX7_losePhases_8 (by decide) ?_
    exact bz_iret C h hlocks hr hF dX7_losePhases_9
set_option maxHeartbeats 4000000 in
set_option maxRecDepth 100000 in
theorem c_X7_reset {l : Launch} {G : bz_G} {σ : bz_W} {a0 : Nat} {x1_ : Int32} (ka0 : bz_k G a0 = (8, 0)) {res : Int32 × bz_W} (hF : f_X7_reset σ a0 x1_ = some res) : bz_M l yX7_reset wz_X7_reset 4 92 G σ [.ref a0, .int x1_] (some (.int res.1)) res.2 := by
  refine bz_mk (cc := cX7_reset) (maxL := 3) (ret := (some .int)) (own := RX7) (by decide) rfl rfl (Nat.le_of_ble_eq_true rfl) ?_
  intro p e s m args below meth c ls C hlocks hr h hl
  have hx := C.1
  have hb := C.2.1
  have hts := C.2.2.2.2.1
  have hl : lv_has ls 3 [(0, .ref a0), (1, .int x1_)] := hl
  obtain ⟨H, eH⟩ : ∃ y, y = s.heap := ⟨_, rfl⟩
  obtain ⟨locs, el⟩ : ∃ y : List Loc, y = [] := ⟨_, rfl⟩
  rw [← el, ← eH] at h ⊢
  unfold f_X7_reset at hF
  refine lv_aload_n hx hb dX7_reset_0 rfl (lv_at hl 0 rfl) ?_
  refine lv_iconst (v := 3) hx hb dX7_reset_1 (by decide) ?_
  refine lv_iload_n hx hb dX7_reset_2 rfl (lv_at hl 1 rfl) ?_
  refine lv_iconst (v := 0) hx hb dX7_reset_3 (by decide) ?_
  obtain ⟨r1, σ2, qr1, hF⟩ := bd_u hF
  refine bz_callV (rest := []) (st1 := [.int r1]) C h (As := [.int 3, .int x1_, .int 0]) (o := some (.int r1)) (τ := σ2) (c_X7_orders (l := l) ka0 (res := (r1, σ2)) qr1) ka0 (by decide) (ci := 7) rfl (cwV 3 hts (bz_gV wd_13_18 wd_13_19 wd_13_20 wd_1_5 wd_13_21) rfl rfl rfl (by decide +kernel) ⟨Nat.le_of_ble_eq_true rfl, Nat.le_of_ble_eq_true rfl⟩) rfl hl.1 rfl (by decide) ⟨Nat.zero_le _, Nat.zero_le _⟩ dX7_reset_4 rfl (fun H locs h => ?_)
  refine lv_istore_n (lv' := [(2, .int r1), (0, .ref a0), (1, .int x1_)]) hx hb dX7_reset_7 rfl hl (by decide) rfl (fun ls hl => ?_)
  refine lv_iload_n hx hb dX7_reset_8 rfl (lv_at hl 0 rfl) ?_
  refine lv_if_ge (tgt := 16) hx hb dX7_reset_9 (by decide) (fun c3 => ?_) (fun c3 => ?_)
  · have hF := it_t hF c3
    refine lv_aload_n hx hb dX7_reset_16 rfl (lv_at hl 1 rfl) ?_
    refine lv_iload_n hx hb dX7_reset_17 rfl (lv_at hl 2 rfl) ?_
    refine lv_bipush (v := 6) hx hb dX7_reset_18 (by decide) ?_
    obtain ⟨r4, σ5, qr4, hF⟩ := bd_u hF
    refine bz_callV (rest := []) (st1 := [.int r4]) C h (As := [.int x1_, .int 6]) (o := some (.int r4)) (τ := σ5) (c_X7_of (l := l) ka0 (res := (r4, σ5)) qr4) ka0 (by decide) (ci := 7) rfl (cwV 2 hts (bz_gV wd_9_15 wd_9_16 wd_9_17 wd_1_5 wd_9_18) rfl rfl rfl (by decide +kernel) ⟨Nat.le_of_ble_eq_true rfl, Nat.le_of_ble_eq_true rfl⟩) rfl hl.1 rfl (by decide) ⟨Nat.zero_le _, Nat.zero_le _⟩ dX7_reset_20 rfl (fun H locs h => ?_)
    exact bz_iret C h hlocks hr hF dX7_reset_23
  · have hF := it_f hF c3
    refine lv_iload_n hx hb dX7_reset_12 rfl (lv_at hl 0 rfl) ?_
    refine lv_goto (tgt := 23) hx hb dX7_reset_13 (by decide) ?_
    exact bz_iret C h hlocks hr hF dX7_reset_23
set_option maxHeartbeats 4000000 in
set_option maxRecDepth 100000 in
theorem L_X7_carryOutItems_L68 {p : Program} {l : Launch} {e : Env} {s : State} {m : MethodId} {args : Array Value} {below : List Frame} {meth : Method} {c : Code} {G : bz_G} (C : bz_C p s m c args cX7_carryOutItems 5 RX7 wz_X7_carryOutItems G) (hlocks : meth.locks = false) (hr : meth.sig.returnType = none) {a0 : Nat} {a1 : Int32} {a2 : Int32} {a3 : Int32} (ka0 : bz_k G a0 = (8, 0)) {k : bz_W → Option (Int32 × bz_W)} {res : Int32 × bz_W} : ∀ (n : Nat) (v4 : Int32) (σ : bz_W) (H : Heap) (locs : List Loc) (ls : Array Slot), f_X7_carryOutItems_L68 a0 a1 a2 a3 k n v4 σ = some res → bz_H G s σ H locs → lv_has ls 5 [(0, .ref a0), (1, .int a1), (2, .int a2), (3, .int a3), (4, .int v4)] → (∀ (σ : bz_W) (H : Heap) (locs : List Loc) (ls : Array Slot), k σ = some res → bz_H G s σ H locs → lv_has ls 5 [(0, .ref a0), (1, .int a1), (2, .int a2), (3, .int a3)] → W p l e ({ frames := 3, cells := 0, slots := 0, locals := 68 } : Room) s m args below meth c H locs 0 0 (MQ below (bz_Qc G none res.2) args s 0 0 (bz_A G)) (F0 m 107 ls [])) → W p l e ({ frames := 3, cells := 0, slots := 0, locals := 68 } : Room) s m args below meth c H locs 0 0 (MQ below (bz_Qc G none res.2) args s 0 0 (bz_A G)) (F0 m 68 ls []) := by
  have hx := C.1
  have hb := C.2.1
  have hts := C.2.2.2.2.1
  intro n
  induction n with
  | zero =>
    intro v4 σ H locs ls hF
    exact absurd hF (by simp [f_X7_carryOutItems_L68])
  | succ n ih =>
    intro v4 σ H locs ls hF h hl hk
    rw [f_X7_carryOutItems_L68] at hF
    refine lv_iload hx hb dX7_carryOutItems_68 (lv_at hl 4 rfl) ?_
    refine lv_sipush (v := 168) hx hb dX7_carryOutItems_70 (by decide) ?_
    refine lv_iconst (v := 4) hx hb dX7_carryOutItems_73 (by decide) ?_
    refine lv_aload_n hx hb dX7_carryOutItems_74 rfl (lv_at hl 0 rfl) ?_
    refine gf_7_0 C h ka0 iz_X7 (List.mem_cons_of_mem _ wd_4_13) dX7_carryOutItems_75 (fun k14 => ?_)
    refine lv_iconst (v := 4) hx hb dX7_carryOutItems_78 (by decide) ?_
    refine bz_iald C h k14 (by decide) (kx := 4) (bz_cl 4 (by decide)) dX7_carryOutItems_79 ?_
    refine lv_imul hx hb dX7_carryOutItems_80 ?_
    refine lv_iadd hx hb dX7_carryOutItems_81 ?_
    refine lv_icmp_ge (tgt := 107) hx hb dX7_carryOutItems_82 (by decide) (fun c15 => ?_) (fun c15 => ?_)
    · have hF := it_t hF c15
      exact hk _ H locs ls hF h (lv_sub hl [0, 1, 2, 3] rfl)
    · have hF := it_f hF c15
      refine lv_aload_n hx hb dX7_carryOutItems_85 rfl (lv_at hl 0 rfl) ?_
      refine gf_7_0 C h ka0 iz_X7 (List.mem_cons_of_mem _ wd_4_13) dX7_carryOutItems_86 (fun k16 => ?_)
      refine lv_iload hx hb dX7_carryOutItems_89 (lv_at hl 4 rfl) ?_
      refine lv_aload_n hx hb dX7_carryOutItems_91 rfl (lv_at hl 0 rfl) ?_
      refine gf_7_0 C h ka0 iz_X7 (List.mem_cons_of_mem _ wd_4_13) dX7_carryOutItems_92 (fun k17 => ?_)
      refine lv_iload hx hb dX7_carryOutItems_95 (lv_at hl 4 rfl) ?_
      refine lv_iconst (v := 4) hx hb dX7_carryOutItems_97 (by decide) ?_
      refine lv_iadd hx hb dX7_carryOutItems_98 ?_
      obtain ⟨c18, hF⟩ := ck_u hF
      refine bz_iald C h k17 c18 (kx := ((v4 + 4) : Int32).toNatClampNeg) rfl dX7_carryOutItems_99 ?_
      obtain ⟨c19, hF⟩ := ck_u hF
      refine bz_iast C h k16 c19 (kx := v4.toNatClampNeg) rfl dX7_carryOutItems_100 (fun H locs h => ?_)
      obtain ⟨σ20, eσ20⟩ : ∃ y : bz_W, y = bz_wi σ (σ.2 a0 0) v4.toNatClampNeg (σ.1 (σ.2 a0 0) ((v4 + 4) : Int32).toNatClampNeg) := ⟨_, rfl⟩
      rw [← eσ20] at h
      have hF := lt_u hF σ20 eσ20
      obtain ⟨x21, ex21⟩ : ∃ y : Int32, y = v4 + 1 := ⟨_, rfl⟩
      have hF := lt_u hF x21 ex21
      refine lv_iinc (v := x21) (lv' := [(4, .int x21), (0, .ref a0), (1, .int a1), (2, .int a2), (3, .int a3)]) hx hb dX7_carryOutItems_101 hl (k := 4) rfl (by rw [ex21]; rfl) (by decide) rfl (fun ls hl => ?_)
      refine lv_goto (tgt := 68) hx hb dX7_carryOutItems_104 (by decide) ?_
      exact ih _ _ H locs ls hF h (lv_sub hl [1, 2, 3, 4, 0] rfl) hk
set_option maxHeartbeats 4000000 in
set_option maxRecDepth 100000 in
theorem L_X7_carryOutItems_L0 {p : Program} {l : Launch} {e : Env} {s : State} {m : MethodId} {args : Array Value} {below : List Frame} {meth : Method} {c : Code} {G : bz_G} (C : bz_C p s m c args cX7_carryOutItems 5 RX7 wz_X7_carryOutItems G) (hlocks : meth.locks = false) (hr : meth.sig.returnType = none) {a0 : Nat} (ka0 : bz_k G a0 = (8, 0)) {k : bz_W → Option (Int32 × bz_W)} {res : Int32 × bz_W} : ∀ (n : Nat) (σ : bz_W) (H : Heap) (locs : List Loc) (ls : Array Slot), f_X7_carryOutItems_L0 a0 k n σ = some res → bz_H G s σ H locs → lv_has ls 5 [(0, .ref a0)] → (∀ (σ : bz_W) (H : Heap) (locs : List Loc) (ls : Array Slot), k σ = some res → bz_H G s σ H locs → lv_has ls 5 [] → W p l e ({ frames := 3, cells := 0, slots := 0, locals := 68 } : Room) s m args below meth c H locs 0 0 (MQ below (bz_Qc G none res.2) args s 0 0 (bz_A G)) (F0 m 169 ls [])) → W p l e ({ frames := 3, cells := 0, slots := 0, locals := 68 } : Room) s m args below meth c H locs 0 0 (MQ below (bz_Qc G none res.2) args s 0 0 (bz_A G)) (F0 m 0 ls []) := by
  have hx := C.1
  have hb := C.2.1
  have hts := C.2.2.2.2.1
  intro n
  induction n with
  | zero =>
    intro σ H locs ls hF
    exact absurd hF (by simp [f_X7_carryOutItems_L0])
  | succ n ih =>
    intro σ H locs ls hF h hl hk
    rw [f_X7_carryOutItems_L0] at hF
    refine lv_aload_n hx hb dX7_carryOutItems_0 rfl (lv_at hl 0 rfl) ?_
    refine gf_7_0 C h ka0 iz_X7 (List.mem_cons_of_mem _ wd_4_13) dX7_carryOutItems_1 (fun k1 => ?_)
    refine lv_iconst (v := 4) hx hb dX7_carryOutItems_4 (by decide) ?_
    refine bz_iald C h k1 (by decide) (kx := 4) (bz_cl 4 (by decide)) dX7_carryOutItems_5 ?_
    refine lv_if_le (tgt := 169) hx hb dX7_carryOutItems_6 (by decide) (fun c2 => ?_) (fun c2 => ?_)
    · have hF := it_t hF c2
      exact hk _ H locs ls hF h (lv_sub hl [] rfl)
    · have hF := it_f hF c2
      refine lv_aload_n hx hb dX7_carryOutItems_9 rfl (lv_at hl 0 rfl) ?_
      refine gf_7_0 C h ka0 iz_X7 (List.mem_cons_of_mem _ wd_4_13) dX7_carryOutItems_10 (fun k3 => ?_)
      refine lv_sipush (v := 168) hx hb dX7_carryOutItems_13 (by decide) ?_
      refine bz_iald C h k3 (by decide) (kx := 168) (bz_cl 168 (by decide)) dX7_carryOutItems_16 ?_
      refine lv_aload_n hx hb dX7_carryOutItems_17 rfl (lv_at hl 0 rfl) ?_
      refine gf_7_0 C h ka0 iz_X7 (List.mem_cons_of_mem _ wd_4_13) dX7_carryOutItems_18 (fun k4 => ?_)
      refine lv_iconst (v := 1) hx hb dX7_carryOutItems_21 (by decide) ?_
      refine bz_iald C h k4 (by decide) (kx := 1) (bz_cl 1 (by decide)) dX7_carryOutItems_22 ?_
      refine lv_icmp_gt (tgt := 169) hx hb dX7_carryOutItems_23 (by decide) (fun c5 => ?_) (fun c5 => ?_)
      · have hF := it_t hF c5
        exact hk _ H locs ls hF h (lv_sub hl [] rfl)
      · have hF := it_f hF c5
        refine lv_aload_n hx hb dX7_carryOutItems_26 rfl (lv_at hl 0 rfl) ?_
        refine gf_7_0 C h ka0 iz_X7 (List.mem_cons_of_mem _ wd_4_13) dX7_carryOutItems_27 (fun k6 => ?_)
        refine lv_sipush (v := 169) hx hb dX7_carryOutItems_30 (by decide) ?_
        refine bz_iald C h k6 (by decide) (kx := 169) (bz_cl 169 (by decide)) dX7_carryOutItems_33 ?_
        refine lv_topi (fun x7 ex7 => ?_)
        have hF := lt_u hF x7 ex7
        refine lv_istore_n (lv' := [(1, .int x7), (0, .ref a0)]) hx hb dX7_carryOutItems_34 rfl hl (by decide) rfl (fun ls hl => ?_)
        refine lv_aload_n hx hb dX7_carryOutItems_35 rfl (lv_at hl 1 rfl) ?_
        refine gf_7_0 C h ka0 iz_X7 (List.mem_cons_of_mem _ wd_4_13) dX7_carryOutItems_36 (fun k8 => ?_)
        refine lv_sipush (v := 170) hx hb dX7_carryOutItems_39 (by decide) ?_
        refine bz_iald C h k8 (by decide) (kx := 170) (bz_cl 170 (by decide)) dX7_carryOutItems_42 ?_
        refine lv_topi (fun x9 ex9 => ?_)
        have hF := lt_u hF x9 ex9
        refine lv_istore_n (lv' := [(2, .int x9), (1, .int x7), (0, .ref a0)]) hx hb dX7_carryOutItems_43 rfl hl (by decide) rfl (fun ls hl => ?_)
        refine lv_aload_n hx hb dX7_carryOutItems_44 rfl (lv_at hl 2 rfl) ?_
        refine gf_7_0 C h ka0 iz_X7 (List.mem_cons_of_mem _ wd_4_13) dX7_carryOutItems_45 (fun k10 => ?_)
        refine lv_sipush (v := 171) hx hb dX7_carryOutItems_48 (by decide) ?_
        refine bz_iald C h k10 (by decide) (kx := 171) (bz_cl 171 (by decide)) dX7_carryOutItems_51 ?_
        refine lv_topi (fun x11 ex11 => ?_)
        have hF := lt_u hF x11 ex11
        refine lv_istore_n (lv' := [(3, .int x11), (2, .int x9), (1, .int x7), (0, .ref a0)]) hx hb dX7_carryOutItems_52 rfl hl (by decide) rfl (fun ls hl => ?_)
        refine lv_aload_n hx hb dX7_carryOutItems_53 rfl (lv_at hl 3 rfl) ?_
        refine gf_7_0 C h ka0 iz_X7 (List.mem_cons_of_mem _ wd_4_13) dX7_carryOutItems_54 (fun k12 => ?_)
        refine lv_iconst (v := 4) hx hb dX7_carryOutItems_57 (by decide) ?_
        refine lv_dup2_11 hx hb dX7_carryOutItems_58 rfl rfl ?_
        refine bz_iald C h k12 (by decide) (kx := 4) (bz_cl 4 (by decide)) dX7_carryOutItems_59 ?_
        refine lv_iconst (v := 1) hx hb dX7_carryOutItems_60 (by decide) ?_
        refine lv_isub hx hb dX7_carryOutItems_61 ?_
        refine bz_iast C h k12 (by decide) (kx := 4) (bz_cl 4 (by decide)) dX7_carryOutItems_62 (fun H locs h => ?_)
        obtain ⟨σ13, eσ13⟩ : ∃ y : bz_W, y = bz_wi σ (σ.2 a0 0) 4 ((σ.1 (σ.2 a0 0) 4) - 1) := ⟨_, rfl⟩
        rw [← eσ13] at h
        have hF := lt_u hF σ13 eσ13
        refine lv_sipush (v := 168) hx hb dX7_carryOutItems_63 (by decide) ?_
        refine lv_istore (lv' := [(4, .int 168), (3, .int x11), (2, .int x9), (1, .int x7), (0, .ref a0)]) hx hb dX7_carryOutItems_66 hl (by decide) rfl (fun ls hl => ?_)
        refine L_X7_carryOutItems_L68 C hlocks hr ka0 _ _ _ H locs ls hF h (lv_sub hl [4, 3, 2, 1, 0] rfl) ?_
        intro σ22 H locs ls hF h hl
        refine lv_aload_n hx hb dX7_carryOutItems_107 rfl (lv_at hl 0 rfl) ?_
        refine lv_iload_n hx hb dX7_carryOutItems_108 rfl (lv_at hl 1 rfl) ?_
        refine lv_iload_n hx hb dX7_carryOutItems_109 rfl (lv_at hl 2 rfl) ?_
        refine lv_iload_n hx hb dX7_carryOutItems_110 rfl (lv_at hl 3 rfl) ?_
        obtain ⟨r23, σ24, qr23, hF⟩ := bd_u hF
        refine bz_callV (rest := []) (st1 := [.int r23]) C h (As := [.int x7, .int x9, .int x11]) (o := some (.int r23)) (τ := σ24) (c_X7_wrongIn (l := l) ka0 (res := (r23, σ24)) qr23) ka0 (by decide) (ci := 7) rfl (cwV 3 hts (bz_gV wd_13_22 wd_13_23 wd_14_0 wd_1_5 wd_14_1) rfl rfl rfl (by decide +kernel) ⟨Nat.le_of_ble_eq_true rfl, Nat.le_of_ble_eq_true rfl⟩) rfl hl.1 rfl (by decide) ⟨Nat.zero_le _, Nat.zero_le _⟩ dX7_carryOutItems_111 rfl (fun H locs h => ?_)
        refine lv_istore (lv' := [(4, .int r23), (0, .ref a0), (1, .int x7), (2, .int x9), (3, .int x11)]) hx hb dX7_carryOutItems_114 hl (by decide) rfl (fun ls hl => ?_)
        refine lv_iload hx hb dX7_carryOutItems_116 (lv_at hl 0 rfl) ?_
        obtain ⟨j26, ej26, hF⟩ := lt_j hF
        have hj26 : ∀ (σ25 : bz_W) (H : Heap) (locs : List Loc) (ls : Array Slot), j26 σ25 = some res → bz_H G s σ25 H locs → lv_has ls 5 [(0, .ref a0)] → W p l e ({ frames := 3, cells := 0, slots := 0, locals := 68 } : Room) s m args below meth c H locs 0 0 (MQ below (bz_Qc G none res.2) args s 0 0 (bz_A G)) (F0 m 166 ls []) := by
            intro σ25 H locs ls hF h hl
            subst ej26
            refine lv_goto (tgt := 0) hx hb dX7_carryOutItems_166 (by decide) ?_
            exact ih _ H locs ls hF h (lv_sub hl [0] rfl) hk
        refine lv_if_ne (tgt := 131) hx hb dX7_carryOutItems_118 (by decide) (fun c27 => ?_) (fun c27 => ?_)
        · have hF := it_f hF c27
          refine lv_iload hx hb dX7_carryOutItems_131 (lv_at hl 0 rfl) ?_
          refine lv_bipush (v := (-4)) hx hb dX7_carryOutItems_133 (by decide) ?_
          refine lv_icmp_eq (tgt := 166) hx hb dX7_carryOutItems_135 (by decide) (fun c28 => ?_) (fun c28 => ?_)
          · have hF := it_t hF c28
            exact hj26 _ H locs ls hF h (lv_sub hl [1] rfl)
          · have hF := it_f hF c28
            refine lv_aload_n hx hb dX7_carryOutItems_138 rfl (lv_at hl 1 rfl) ?_
            refine gf_7_0 C h ka0 iz_X7 (List.mem_cons_of_mem _ wd_4_13) dX7_carryOutItems_139 (fun k29 => ?_)
            refine lv_iconst (v := 5) hx hb dX7_carryOutItems_142 (by decide) ?_
            refine lv_dup2_11 hx hb dX7_carryOutItems_143 rfl rfl ?_
            refine bz_iald C h k29 (by decide) (kx := 5) (bz_cl 5 (by decide)) dX7_carryOutItems_144 ?_
            refine lv_iconst (v := 1) hx hb dX7_carryOutItems_145 (by decide) ?_
            refine lv_iadd hx hb dX7_carryOutItems_146 ?_
            refine bz_iast C h k29 (by decide) (kx := 5) (bz_cl 5 (by decide)) dX7_carryOutItems_147 (fun H locs h => ?_)
            obtain ⟨σ30, eσ30⟩ : ∃ y : bz_W, y = bz_wi σ24 (σ24.2 a0 0) 5 ((σ24.1 (σ24.2 a0 0) 5) + 1) := ⟨_, rfl⟩
            rw [← eσ30] at h
            have hF := lt_u hF σ30 eσ30
            refine lv_aload_n hx hb dX7_carryOutItems_148 rfl (lv_at hl 1 rfl) ?_
            refine lv_iload hx hb dX7_carryOutItems_149 (lv_at hl 0 rfl) ?_
            obtain ⟨j33, ej33, hF⟩ := lt_j hF
            have hj33 : ∀ (y31 : Int32) (σ32 : bz_W) (H : Heap) (locs : List Loc) (ls : Array Slot), j33 y31 σ32 = some res → bz_H G s σ32 H locs → lv_has ls 5 [(0, .ref a0)] → W p l e ({ frames := 3, cells := 0, slots := 0, locals := 68 } : Room) s m args below meth c H locs 0 0 (MQ below (bz_Qc G none res.2) args s 0 0 (bz_A G)) (F0 m 163 ls [.int y31, .ref a0]) := by
                intro y31 σ32 H locs ls hF h hl
                subst ej33
                refine pf_7_5 C h ka0 iz_X7 (List.mem_cons_of_mem _ wd_8_12) dX7_carryOutItems_163 (fun H locs h => ?_)
                obtain ⟨σ34, eσ34⟩ : ∃ y : bz_W, y = bz_wi σ32 a0 5 y31 := ⟨_, rfl⟩
                rw [← eσ34] at h
                have hF := lt_u hF σ34 eσ34
                exact hj26 _ H locs ls hF h (lv_sub hl [0] rfl)
            refine lv_if_le (tgt := 159) hx hb dX7_carryOutItems_151 (by decide) (fun c35 => ?_) (fun c35 => ?_)
            · have hF := it_t hF c35
              refine lv_aload_n hx hb dX7_carryOutItems_159 rfl (lv_at hl 1 rfl) ?_
              refine gf_7_5 C h ka0 iz_X7 (List.mem_cons_of_mem _ wd_8_12) dX7_carryOutItems_160 ?_
              exact hj33 _ _ H locs ls hF h (lv_sub hl [1] rfl)
            · have hF := it_f hF c35
              refine lv_iload hx hb dX7_carryOutItems_154 (lv_at hl 0 rfl) ?_
              refine lv_goto (tgt := 163) hx hb dX7_carryOutItems_156 (by decide) ?_
              exact hj33 _ _ H locs ls hF h (lv_sub hl [1] rfl)
        · have hF := it_t hF c27
          refine lv_aload_n hx hb dX7_carryOutItems_121 rfl (lv_at hl 1 rfl) ?_
          refine lv_iload_n hx hb dX7_carryOutItems_122 rfl (lv_at hl 2 rfl) ?_
          refine lv_iload_n hx hb dX7_carryOutItems_123 rfl (lv_at hl 3 rfl) ?_
          refine lv_iload_n hx hb dX7_carryOutItems_124 rfl (lv_at hl 4 rfl) ?_
          obtain ⟨r36, σ37, qr36, hF⟩ := bd_u hF
          refine bz_callV (rest := []) (st1 := []) C h (As := [.int x7, .int x9, .int x11]) (o := none) (τ := σ37) (c_X7_carryOut (l := l) ka0 (res := (r36, σ37)) qr36) ka0 (by decide) (ci := 7) rfl (cwV 3 hts (bz_gV wd_14_2 wd_14_3 wd_14_4 wd_1_5 wd_14_5) rfl rfl rfl (by decide +kernel) ⟨Nat.le_of_ble_eq_true rfl, Nat.le_of_ble_eq_true rfl⟩) rfl hl.1 rfl (by decide) ⟨Nat.zero_le _, Nat.zero_le _⟩ dX7_carryOutItems_125 rfl (fun H locs h => ?_)
          refine lv_goto (tgt := 166) hx hb dX7_carryOutItems_128 (by decide) ?_
          exact hj26 _ H locs ls hF h (lv_sub hl [1] rfl)
set_option maxHeartbeats 4000000 in
set_option maxRecDepth 100000 in
theorem c_X7_carryOutItems {l : Launch} {G : bz_G} {σ : bz_W} {a0 : Nat} (ka0 : bz_k G a0 = (8, 0)) {res : Int32 × bz_W} (hF : f_X7_carryOutItems σ a0 = some res) : bz_M l yX7_carryOutItems wz_X7_carryOutItems 3 68 G σ [.ref a0] none res.2 := by
  refine bz_mk (cc := cX7_carryOutItems) (maxL := 5) (ret := none) (own := RX7) (by decide) rfl rfl (Nat.le_of_ble_eq_true rfl) ?_
  intro p e s m args below meth c ls C hlocks hr h hl
  have hx := C.1
  have hb := C.2.1
  have hts := C.2.2.2.2.1
  have hl : lv_has ls 5 [(0, .ref a0)] := hl
  obtain ⟨H, eH⟩ : ∃ y, y = s.heap := ⟨_, rfl⟩
  obtain ⟨locs, el⟩ : ∃ y : List Loc, y = [] := ⟨_, rfl⟩
  rw [← el, ← eH] at h ⊢
  unfold f_X7_carryOutItems at hF
  refine L_X7_carryOutItems_L0 C hlocks hr ka0 _ _ H locs ls hF h (lv_sub hl [0] rfl) ?_
  intro σ38 H locs ls hF h hl
  exact bz_vret C h hlocks hr hF dX7_carryOutItems_169
set_option maxHeartbeats 4000000 in
set_option maxRecDepth 100000 in
theorem L_X7_startOne_L8 {p : Program} {l : Launch} {e : Env} {s : State} {m : MethodId} {args : Array Value} {below : List Frame} {meth : Method} {c : Code} {G : bz_G} (C : bz_C p s m c args cX7_startOne 4 RX7 wz_X7_startOne G) (hlocks : meth.locks = false) (hr : meth.sig.returnType = (some .int)) {a0 : Nat} (ka0 : bz_k G a0 = (8, 0)) {k : Int32 → Int32 → bz_W → Option (Int32 × bz_W)} {res : Int32 × bz_W} : ∀ (n : Nat) (v1 : Int32) (v2 : Int32) (σ : bz_W) (H : Heap) (locs : List Loc) (ls : Array Slot), f_X7_startOne_L8 a0 k n v1 v2 σ = some res → bz_H G s σ H locs → lv_has ls 4 [(0, .ref a0), (1, .int v1), (2, .int v2)] → (∀ (w1 : Int32) (w2 : Int32) (σ : bz_W) (H : Heap) (locs : List Loc) (ls : Array Slot), k w1 w2 σ = some res → bz_H G s σ H locs → lv_has ls 4 [(0, .ref a0), (1, .int w1), (2, .int w2)] → W p l e ({ frames := 5, cells := 0, slots := 0, locals := 112 } : Room) s m args below meth c H locs 0 0 (MQ below (bz_Qc G (some (.int res.1)) res.2) args s 0 0 (bz_A G)) (F0 m 34 ls [])) → W p l e ({ frames := 5, cells := 0, slots := 0, locals := 112 } : Room) s m args below meth c H locs 0 0 (MQ below (bz_Qc G (some (.int res.1)) res.2) args s 0 0 (bz_A G)) (F0 m 8 ls []) := by
  have hx := C.1
  have hb := C.2.1
  have hts := C.2.2.2.2.1
  intro n
  induction n with
  | zero =>
    intro v1 v2 σ H locs ls hF
    exact absurd hF (by simp [f_X7_startOne_L8])
  | succ n ih =>
    intro v1 v2 σ H locs ls hF h hl hk
    rw [f_X7_startOne_L8] at hF
    refine lv_iload_n hx hb dX7_startOne_8 rfl (lv_at hl 2 rfl) ?_
    refine lv_bipush (v := (-4)) hx hb dX7_startOne_9 (by decide) ?_
    refine lv_icmp_eq (tgt := 34) hx hb dX7_startOne_11 (by decide) (fun c3 => ?_) (fun c3 => ?_)
    · have hF := it_t hF c3
      exact hk _ _ _ H locs ls hF h (lv_sub hl [0, 1, 2] rfl)
    · have hF := it_f hF c3
      refine lv_aload_n hx hb dX7_startOne_14 rfl (lv_at hl 0 rfl) ?_
      refine lv_iload_n hx hb dX7_startOne_15 rfl (lv_at hl 2 rfl) ?_
      obtain ⟨r4, σ5, qr4, hF⟩ := bd_u hF
      refine bz_callV (rest := []) (st1 := [.int r4]) C h (As := [.int v2]) (o := some (.int r4)) (τ := σ5) (c_X7_against (l := l) ka0 (res := (r4, σ5)) qr4) ka0 (by decide) (ci := 7) rfl (cwV 1 hts (bz_gV wd_20_8 wd_20_9 wd_20_10 wd_1_5 wd_20_11) rfl rfl rfl (by decide +kernel) ⟨Nat.le_of_ble_eq_true rfl, Nat.le_of_ble_eq_true rfl⟩) rfl hl.1 rfl (by decide) ⟨Nat.zero_le _, Nat.zero_le _⟩ dX7_startOne_16 rfl (fun H locs h => ?_)
      refine lv_if_eq (tgt := 34) hx hb dX7_startOne_19 (by decide) (fun c6 => ?_) (fun c6 => ?_)
      · have hF := it_t hF c6
        exact hk _ _ _ H locs ls hF h (lv_sub hl [0, 1, 2] rfl)
      · have hF := it_f hF c6
        obtain ⟨x7, ex7⟩ : ∃ y : Int32, y = v1 + 1 := ⟨_, rfl⟩
        have hF := lt_u hF x7 ex7
        refine lv_iinc (v := x7) (lv' := [(1, .int x7), (0, .ref a0), (2, .int v2)]) hx hb dX7_startOne_22 hl (k := 1) rfl (by rw [ex7]; rfl) (by decide) rfl (fun ls hl => ?_)
        refine lv_aload_n hx hb dX7_startOne_25 rfl (lv_at hl 1 rfl) ?_
        refine lv_iload_n hx hb dX7_startOne_26 rfl (lv_at hl 0 rfl) ?_
        obtain ⟨r8, σ9, qr8, hF⟩ := bd_u hF
        refine bz_callV (rest := []) (st1 := [.int r8]) C h (As := [.int x7]) (o := some (.int r8)) (τ := σ9) (c_X7_waitingAt (l := l) ka0 (res := (r8, σ9)) qr8) ka0 (by decide) (ci := 7) rfl (cwV 1 hts (bz_gV wd_20_4 wd_20_5 wd_20_6 wd_1_5 wd_20_7) rfl rfl rfl (by decide +kernel) ⟨Nat.le_of_ble_eq_true rfl, Nat.le_of_ble_eq_true rfl⟩) rfl hl.1 rfl (by decide) ⟨Nat.zero_le _, Nat.zero_le _⟩ dX7_startOne_27 rfl (fun H locs h => ?_)
        refine lv_istore_n (lv' := [(2, .int r8), (1, .int x7), (0, .ref a0)]) hx hb dX7_startOne_30 rfl hl (by decide) rfl (fun ls hl => ?_)
        refine lv_goto (tgt := 8) hx hb dX7_startOne_31 (by decide) ?_
        exact ih _ _ _ H locs ls hF h (lv_sub hl [2, 1, 0] rfl) hk
set_option maxHeartbeats 4000000 in
set_option maxRecDepth 100000 in
theorem L_X7_startOne_L44 {p : Program} {l : Launch} {e : Env} {s : State} {m : MethodId} {args : Array Value} {below : List Frame} {meth : Method} {c : Code} {G : bz_G} (C : bz_C p s m c args cX7_startOne 4 RX7 wz_X7_startOne G) (hlocks : meth.locks = false) (hr : meth.sig.returnType = (some .int)) {a0 : Nat} {a1 : Int32} {a2 : Int32} (ka0 : bz_k G a0 = (8, 0)) {k : bz_W → Option (Int32 × bz_W)} {res : Int32 × bz_W} : ∀ (n : Nat) (v3 : Int32) (σ : bz_W) (H : Heap) (locs : List Loc) (ls : Array Slot), f_X7_startOne_L44 a0 a1 a2 k n v3 σ = some res → bz_H G s σ H locs → lv_has ls 4 [(0, .ref a0), (1, .int a1), (2, .int a2), (3, .int v3)] → (∀ (σ : bz_W) (H : Heap) (locs : List Loc) (ls : Array Slot), k σ = some res → bz_H G s σ H locs → lv_has ls 4 [(0, .ref a0), (2, .int a2)] → W p l e ({ frames := 5, cells := 0, slots := 0, locals := 112 } : Room) s m args below meth c H locs 0 0 (MQ below (bz_Qc G (some (.int res.1)) res.2) args s 0 0 (bz_A G)) (F0 m 85 ls [])) → W p l e ({ frames := 5, cells := 0, slots := 0, locals := 112 } : Room) s m args below meth c H locs 0 0 (MQ below (bz_Qc G (some (.int res.1)) res.2) args s 0 0 (bz_A G)) (F0 m 44 ls []) := by
  have hx := C.1
  have hb := C.2.1
  have hts := C.2.2.2.2.1
  intro n
  induction n with
  | zero =>
    intro v3 σ H locs ls hF
    exact absurd hF (by simp [f_X7_startOne_L44])
  | succ n ih =>
    intro v3 σ H locs ls hF h hl hk
    rw [f_X7_startOne_L44] at hF
    refine lv_iload_n hx hb dX7_startOne_44 rfl (lv_at hl 3 rfl) ?_
    refine lv_aload_n hx hb dX7_startOne_45 rfl (lv_at hl 0 rfl) ?_
    refine gf_7_0 C h ka0 iz_X7 (List.mem_cons_of_mem _ wd_4_13) dX7_startOne_46 (fun k14 => ?_)
    refine lv_iconst (v := 0) hx hb dX7_startOne_49 (by decide) ?_
    refine bz_iald C h k14 (by decide) (kx := 0) (bz_cl 0 (by decide)) dX7_startOne_50 ?_
    refine lv_icmp_ge (tgt := 85) hx hb dX7_startOne_51 (by decide) (fun c15 => ?_) (fun c15 => ?_)
    · have hF := it_t hF c15
      exact hk _ H locs ls hF h (lv_sub hl [0, 2] rfl)
    · have hF := it_f hF c15
      refine lv_aload_n hx hb dX7_startOne_54 rfl (lv_at hl 0 rfl) ?_
      refine lv_iload_n hx hb dX7_startOne_55 rfl (lv_at hl 3 rfl) ?_
      obtain ⟨r16, σ17, qr16, hF⟩ := bd_u hF
      refine bz_callV (rest := []) (st1 := [.int r16]) C h (As := [.int v3]) (o := some (.int r16)) (τ := σ17) (c_X7_waits (l := l) ka0 (res := (r16, σ17)) qr16) ka0 (by decide) (ci := 7) rfl (cwV 1 hts (bz_gV wd_14_22 wd_14_23 wd_15_0 wd_1_5 wd_15_1) rfl rfl rfl (by decide +kernel) ⟨Nat.le_of_ble_eq_true rfl, Nat.le_of_ble_eq_true rfl⟩) rfl hl.1 rfl (by decide) ⟨Nat.zero_le _, Nat.zero_le _⟩ dX7_startOne_56 rfl (fun H locs h => ?_)
      obtain ⟨j19, ej19, hF⟩ := lt_j hF
      have hj19 : ∀ (σ18 : bz_W) (H : Heap) (locs : List Loc) (ls : Array Slot), j19 σ18 = some res → bz_H G s σ18 H locs → lv_has ls 4 [(0, .ref a0), (1, .int a1), (2, .int a2), (3, .int v3)] → W p l e ({ frames := 5, cells := 0, slots := 0, locals := 112 } : Room) s m args below meth c H locs 0 0 (MQ below (bz_Qc G (some (.int res.1)) res.2) args s 0 0 (bz_A G)) (F0 m 79 ls []) := by
          intro σ18 H locs ls hF h hl
          subst ej19
          obtain ⟨x20, ex20⟩ : ∃ y : Int32, y = v3 + 1 := ⟨_, rfl⟩
          have hF := lt_u hF x20 ex20
          refine lv_iinc (v := x20) (lv' := [(3, .int x20), (0, .ref a0), (1, .int a1), (2, .int a2)]) hx hb dX7_startOne_79 hl (k := 3) rfl (by rw [ex20]; rfl) (by decide) rfl (fun ls hl => ?_)
          refine lv_goto (tgt := 44) hx hb dX7_startOne_82 (by decide) ?_
          exact ih _ _ H locs ls hF h (lv_sub hl [1, 2, 3, 0] rfl) hk
      refine lv_if_eq (tgt := 79) hx hb dX7_startOne_59 (by decide) (fun c21 => ?_) (fun c21 => ?_)
      · have hF := it_t hF c21
        exact hj19 _ H locs ls hF h (lv_sub hl [0, 1, 2, 3] rfl)
      · have hF := it_f hF c21
        refine lv_aload_n hx hb dX7_startOne_62 rfl (lv_at hl 0 rfl) ?_
        refine lv_iload_n hx hb dX7_startOne_63 rfl (lv_at hl 3 rfl) ?_
        obtain ⟨r22, σ23, qr22, hF⟩ := bd_u hF
        refine bz_callV (rest := []) (st1 := [.int r22]) C h (As := [.int v3]) (o := some (.int r22)) (τ := σ23) (c_X7_placeOf (l := l) ka0 (res := (r22, σ23)) qr22) ka0 (by decide) (ci := 7) rfl (cwV 1 hts (bz_gV wd_14_18 wd_14_19 wd_14_20 wd_1_5 wd_14_21) rfl rfl rfl (by decide +kernel) ⟨Nat.le_of_ble_eq_true rfl, Nat.le_of_ble_eq_true rfl⟩) rfl hl.1 rfl (by decide) ⟨Nat.zero_le _, Nat.zero_le _⟩ dX7_startOne_64 rfl (fun H locs h => ?_)
        refine lv_iload_n hx hb dX7_startOne_67 rfl (lv_at hl 1 rfl) ?_
        refine lv_icmp_ge (tgt := 79) hx hb dX7_startOne_68 (by decide) (fun c24 => ?_) (fun c24 => ?_)
        · have hF := it_t hF c24
          exact hj19 _ H locs ls hF h (lv_sub hl [0, 1, 2, 3] rfl)
        · have hF := it_f hF c24
          refine lv_aload_n hx hb dX7_startOne_71 rfl (lv_at hl 0 rfl) ?_
          refine lv_iload_n hx hb dX7_startOne_72 rfl (lv_at hl 3 rfl) ?_
          refine lv_bipush (v := 18) hx hb dX7_startOne_73 (by decide) ?_
          refine lv_iconst (v := 1) hx hb dX7_startOne_75 (by decide) ?_
          obtain ⟨r25, σ26, qr25, hF⟩ := bd_u hF
          refine bz_callV (rest := []) (st1 := []) C h (As := [.int v3, .int 18, .int 1]) (o := none) (τ := σ26) (c_X7_more (l := l) ka0 (res := (r25, σ26)) qr25) ka0 (by decide) (ci := 7) rfl (cwV 3 hts (bz_gV wd_14_14 wd_14_15 wd_14_16 wd_1_5 wd_14_17) rfl rfl rfl (by decide +kernel) ⟨Nat.le_of_ble_eq_true rfl, Nat.le_of_ble_eq_true rfl⟩) rfl hl.1 rfl (by decide) ⟨Nat.zero_le _, Nat.zero_le _⟩ dX7_startOne_76 rfl (fun H locs h => ?_)
          exact hj19 _ H locs ls hF h (lv_sub hl [0, 1, 2, 3] rfl)
set_option maxHeartbeats 4000000 in
set_option maxRecDepth 100000 in
theorem c_X7_startOne {l : Launch} {G : bz_G} {σ : bz_W} {a0 : Nat} (ka0 : bz_k G a0 = (8, 0)) {res : Int32 × bz_W} (hF : f_X7_startOne σ a0 = some res) : bz_M l yX7_startOne wz_X7_startOne 5 112 G σ [.ref a0] (some (.int res.1)) res.2 := by
  refine bz_mk (cc := cX7_startOne) (maxL := 4) (ret := (some .int)) (own := RX7) (by decide) rfl rfl (Nat.le_of_ble_eq_true rfl) ?_
  intro p e s m args below meth c ls C hlocks hr h hl
  have hx := C.1
  have hb := C.2.1
  have hts := C.2.2.2.2.1
  have hl : lv_has ls 4 [(0, .ref a0)] := hl
  obtain ⟨H, eH⟩ : ∃ y, y = s.heap := ⟨_, rfl⟩
  obtain ⟨locs, el⟩ : ∃ y : List Loc, y = [] := ⟨_, rfl⟩
  rw [← el, ← eH] at h ⊢
  unfold f_X7_startOne at hF
  refine lv_iconst (v := 0) hx hb dX7_startOne_0 (by decide) ?_
  refine lv_istore_n (lv' := [(1, .int 0), (0, .ref a0)]) hx hb dX7_startOne_1 rfl hl (by decide) rfl (fun ls hl => ?_)
  refine lv_aload_n hx hb dX7_startOne_2 rfl (lv_at hl 1 rfl) ?_
  refine lv_iconst (v := 0) hx hb dX7_startOne_3 (by decide) ?_
  obtain ⟨r1, σ2, qr1, hF⟩ := bd_u hF
  refine bz_callV (rest := []) (st1 := [.int r1]) C h (As := [.int 0]) (o := some (.int r1)) (τ := σ2) (c_X7_waitingAt (l := l) ka0 (res := (r1, σ2)) qr1) ka0 (by decide) (ci := 7) rfl (cwV 1 hts (bz_gV wd_20_4 wd_20_5 wd_20_6 wd_1_5 wd_20_7) rfl rfl rfl (by decide +kernel) ⟨Nat.le_of_ble_eq_true rfl, Nat.le_of_ble_eq_true rfl⟩) rfl hl.1 rfl (by decide) ⟨Nat.zero_le _, Nat.zero_le _⟩ dX7_startOne_4 rfl (fun H locs h => ?_)
  refine lv_istore_n (lv' := [(2, .int r1), (1, .int 0), (0, .ref a0)]) hx hb dX7_startOne_7 rfl hl (by decide) rfl (fun ls hl => ?_)
  refine L_X7_startOne_L8 C hlocks hr ka0 _ _ _ _ H locs ls hF h (lv_sub hl [2, 1, 0] rfl) ?_
  intro x10 x11 σ12 H locs ls hF h hl
  refine lv_iload_n hx hb dX7_startOne_34 rfl (lv_at hl 2 rfl) ?_
  refine lv_bipush (v := (-4)) hx hb dX7_startOne_35 (by decide) ?_
  refine lv_icmp_ne (tgt := 42) hx hb dX7_startOne_37 (by decide) (fun c13 => ?_) (fun c13 => ?_)
  · have hF := it_f hF c13
    refine lv_iconst (v := 0) hx hb dX7_startOne_42 (by decide) ?_
    refine lv_istore_n (lv' := [(3, .int 0), (0, .ref a0), (1, .int x10), (2, .int x11)]) hx hb dX7_startOne_43 rfl hl (by decide) rfl (fun ls hl => ?_)
    refine L_X7_startOne_L44 C hlocks hr ka0 _ _ _ H locs ls hF h (lv_sub hl [1, 2, 3, 0] rfl) ?_
    intro σ27 H locs ls hF h hl
    refine lv_aload_n hx hb dX7_startOne_85 rfl (lv_at hl 0 rfl) ?_
    refine lv_iload_n hx hb dX7_startOne_86 rfl (lv_at hl 1 rfl) ?_
    refine lv_iconst (v := 5) hx hb dX7_startOne_87 (by decide) ?_
    refine lv_iconst (v := 2) hx hb dX7_startOne_88 (by decide) ?_
    obtain ⟨r28, σ29, qr28, hF⟩ := bd_u hF
    refine bz_callV (rest := []) (st1 := []) C h (As := [.int x11, .int 5, .int 2]) (o := none) (τ := σ29) (c_X7_put (l := l) ka0 (res := (r28, σ29)) qr28) ka0 (by decide) (ci := 7) rfl (cwV 3 hts (bz_gV wd_8_18 wd_8_19 wd_8_20 wd_1_5 wd_8_21) rfl rfl rfl (by decide +kernel) ⟨Nat.le_of_ble_eq_true rfl, Nat.le_of_ble_eq_true rfl⟩) rfl hl.1 rfl (by decide) ⟨Nat.zero_le _, Nat.zero_le _⟩ dX7_startOne_89 rfl (fun H locs h => ?_)
    refine lv_aload_n hx hb dX7_startOne_92 rfl (lv_at hl 0 rfl) ?_
    refine lv_iload_n hx hb dX7_startOne_93 rfl (lv_at hl 1 rfl) ?_
    refine lv_bipush (v := 8) hx hb dX7_startOne_94 (by decide) ?_
    refine lv_iconst (v := 0) hx hb dX7_startOne_96 (by decide) ?_
    obtain ⟨r30, σ31, qr30, hF⟩ := bd_u hF
    refine bz_callV (rest := []) (st1 := []) C h (As := [.int x11, .int 8, .int 0]) (o := none) (τ := σ31) (c_X7_put (l := l) ka0 (res := (r30, σ31)) qr30) ka0 (by decide) (ci := 7) rfl (cwV 3 hts (bz_gV wd_8_18 wd_8_19 wd_8_20 wd_1_5 wd_8_21) rfl rfl rfl (by decide +kernel) ⟨Nat.le_of_ble_eq_true rfl, Nat.le_of_ble_eq_true rfl⟩) rfl hl.1 rfl (by decide) ⟨Nat.zero_le _, Nat.zero_le _⟩ dX7_startOne_97 rfl (fun H locs h => ?_)
    refine lv_aload_n hx hb dX7_startOne_100 rfl (lv_at hl 0 rfl) ?_
    refine lv_iload_n hx hb dX7_startOne_101 rfl (lv_at hl 1 rfl) ?_
    refine lv_bipush (v := 14) hx hb dX7_startOne_102 (by decide) ?_
    refine lv_iconst (v := 1) hx hb dX7_startOne_104 (by decide) ?_
    obtain ⟨r32, σ33, qr32, hF⟩ := bd_u hF
    refine bz_callV (rest := []) (st1 := []) C h (As := [.int x11, .int 14, .int 1]) (o := none) (τ := σ33) (c_X7_more (l := l) ka0 (res := (r32, σ33)) qr32) ka0 (by decide) (ci := 7) rfl (cwV 3 hts (bz_gV wd_14_14 wd_14_15 wd_14_16 wd_1_5 wd_14_17) rfl rfl rfl (by decide +kernel) ⟨Nat.le_of_ble_eq_true rfl, Nat.le_of_ble_eq_true rfl⟩) rfl hl.1 rfl (by decide) ⟨Nat.zero_le _, Nat.zero_le _⟩ dX7_startOne_105 rfl (fun H locs h => ?_)
    refine lv_aload_n hx hb dX7_startOne_108 rfl (lv_at hl 0 rfl) ?_
    refine lv_iload_n hx hb dX7_startOne_109 rfl (lv_at hl 1 rfl) ?_
    refine lv_iconst (v := 1) hx hb dX7_startOne_110 (by decide) ?_
    obtain ⟨r34, σ35, qr34, hF⟩ := bd_u hF
    refine bz_callV (rest := []) (st1 := []) C h (As := [.int x11, .int 1]) (o := none) (τ := σ35) (c_X7_note (l := l) ka0 (res := (r34, σ35)) qr34) ka0 (by decide) (ci := 7) rfl (cwV 2 hts (bz_gV wd_14_6 wd_14_7 wd_14_8 wd_1_5 wd_14_9) rfl rfl rfl (by decide +kernel) ⟨Nat.le_of_ble_eq_true rfl, Nat.le_of_ble_eq_true rfl⟩) rfl hl.1 rfl (by decide) ⟨Nat.zero_le _, Nat.zero_le _⟩ dX7_startOne_111 rfl (fun H locs h => ?_)
    refine lv_iconst (v := 1) hx hb dX7_startOne_114 (by decide) ?_
    exact bz_iret C h hlocks hr hF dX7_startOne_115
  · have hF := it_t hF c13
    refine lv_iconst (v := 0) hx hb dX7_startOne_40 (by decide) ?_
    exact bz_iret C h hlocks hr hF dX7_startOne_41
set_option maxHeartbeats 4000000 in
set_option maxRecDepth 100000 in
theorem c_X7_goesOn {l : Launch} {G : bz_G} {σ : bz_W} {a0 : Nat} {x1_ : Int32} (ka0 : bz_k G a0 = (8, 0)) {res : Int32 × bz_W} (hF : f_X7_goesOn σ a0 x1_ = some res) : bz_M l yX7_goesOn wz_X7_goesOn 3 64 G σ [.ref a0, .int x1_] none res.2 := by
  refine bz_mk (cc := cX7_goesOn) (maxL := 7) (ret := none) (own := RX7) (by decide) rfl rfl (Nat.le_of_ble_eq_true rfl) ?_
  intro p e s m args below meth c ls C hlocks hr h hl
  have hx := C.1
  have hb := C.2.1
  have hts := C.2.2.2.2.1
  have hl : lv_has ls 7 [(0, .ref a0), (1, .int x1_)] := hl
  obtain ⟨H, eH⟩ : ∃ y, y = s.heap := ⟨_, rfl⟩
  obtain ⟨locs, el⟩ : ∃ y : List Loc, y = [] := ⟨_, rfl⟩
  rw [← el, ← eH] at h ⊢
  unfold f_X7_goesOn at hF
  refine lv_aload_n hx hb dX7_goesOn_0 rfl (lv_at hl 0 rfl) ?_
  refine lv_iload_n hx hb dX7_goesOn_1 rfl (lv_at hl 1 rfl) ?_
  obtain ⟨r1, σ2, qr1, hF⟩ := bd_u hF
  refine bz_callV (rest := []) (st1 := [.int r1]) C h (As := [.int x1_]) (o := some (.int r1)) (τ := σ2) (c_X7_turns (l := l) ka0 (res := (r1, σ2)) qr1) ka0 (by decide) (ci := 7) rfl (cwV 1 hts (bz_gV wd_21_15 wd_21_16 wd_21_17 wd_1_5 wd_21_18) rfl rfl rfl (by decide +kernel) ⟨Nat.le_of_ble_eq_true rfl, Nat.le_of_ble_eq_true rfl⟩) rfl hl.1 rfl (by decide) ⟨Nat.zero_le _, Nat.zero_le _⟩ dX7_goesOn_2 rfl (fun H locs h => ?_)
  refine lv_istore_n (lv' := [(2, .int r1), (0, .ref a0), (1, .int x1_)]) hx hb dX7_goesOn_5 rfl hl (by decide) rfl (fun ls hl => ?_)
  refine lv_aload_n hx hb dX7_goesOn_6 rfl (lv_at hl 1 rfl) ?_
  refine lv_iload_n hx hb dX7_goesOn_7 rfl (lv_at hl 2 rfl) ?_
  refine lv_bipush (v := 16) hx hb dX7_goesOn_8 (by decide) ?_
  refine lv_iload_n hx hb dX7_goesOn_10 rfl (lv_at hl 0 rfl) ?_
  obtain ⟨j5, ej5, hF⟩ := lt_j hF
  have hj5 : ∀ (y3 : Int32) (σ4 : bz_W) (H : Heap) (locs : List Loc) (ls : Array Slot), j5 y3 σ4 = some res → bz_H G s σ4 H locs → lv_has ls 7 [(0, .ref a0), (1, .int x1_), (2, .int r1)] → W p l e ({ frames := 3, cells := 0, slots := 0, locals := 64 } : Room) s m args below meth c H locs 0 0 (MQ below (bz_Qc G none res.2) args s 0 0 (bz_A G)) (F0 m 19 ls [.int y3, .int 16, .int x1_, .ref a0]) := by
      intro y3 σ4 H locs ls hF h hl
      subst ej5
      obtain ⟨r6, σ7, qr6, hF⟩ := bd_u hF
      refine bz_callV (rest := []) (st1 := []) C h (As := [.int x1_, .int 16, .int y3]) (o := none) (τ := σ7) (c_X7_more (l := l) ka0 (res := (r6, σ7)) qr6) ka0 (by decide) (ci := 7) rfl (cwV 3 hts (bz_gV wd_14_14 wd_14_15 wd_14_16 wd_1_5 wd_14_17) rfl rfl rfl (by decide +kernel) ⟨Nat.le_of_ble_eq_true rfl, Nat.le_of_ble_eq_true rfl⟩) rfl hl.1 rfl (by decide) ⟨Nat.zero_le _, Nat.zero_le _⟩ dX7_goesOn_19 rfl (fun H locs h => ?_)
      refine lv_aload_n hx hb dX7_goesOn_22 rfl (lv_at hl 0 rfl) ?_
      refine lv_iload_n hx hb dX7_goesOn_23 rfl (lv_at hl 1 rfl) ?_
      refine lv_bipush (v := 17) hx hb dX7_goesOn_24 (by decide) ?_
      refine lv_aload_n hx hb dX7_goesOn_26 rfl (lv_at hl 0 rfl) ?_
      refine lv_iload_n hx hb dX7_goesOn_27 rfl (lv_at hl 1 rfl) ?_
      obtain ⟨r8, σ9, qr8, hF⟩ := bd_u hF
      refine bz_callV (rest := [.int 17, .int x1_, .ref a0]) (st1 := [.int r8, .int 17, .int x1_, .ref a0]) C h (As := [.int x1_]) (o := some (.int r8)) (τ := σ9) (c_X7_waits (l := l) ka0 (res := (r8, σ9)) qr8) ka0 (by decide) (ci := 7) rfl (cwV 1 hts (bz_gV wd_14_22 wd_14_23 wd_15_0 wd_1_5 wd_15_1) rfl rfl rfl (by decide +kernel) ⟨Nat.le_of_ble_eq_true rfl, Nat.le_of_ble_eq_true rfl⟩) rfl hl.1 rfl (Nat.le_of_ble_eq_true rfl) ⟨Nat.zero_le _, Nat.zero_le _⟩ dX7_goesOn_28 rfl (fun H locs h => ?_)
      obtain ⟨j12, ej12, hF⟩ := lt_j hF
      have hj12 : ∀ (y10 : Int32) (σ11 : bz_W) (H : Heap) (locs : List Loc) (ls : Array Slot), j12 y10 σ11 = some res → bz_H G s σ11 H locs → lv_has ls 7 [(0, .ref a0), (1, .int x1_), (2, .int r1)] → W p l e ({ frames := 3, cells := 0, slots := 0, locals := 64 } : Room) s m args below meth c H locs 0 0 (MQ below (bz_Qc G none res.2) args s 0 0 (bz_A G)) (F0 m 39 ls [.int y10, .int 17, .int x1_, .ref a0]) := by
          intro y10 σ11 H locs ls hF h hl
          subst ej12
          obtain ⟨r13, σ14, qr13, hF⟩ := bd_u hF
          refine bz_callV (rest := []) (st1 := []) C h (As := [.int x1_, .int 17, .int y10]) (o := none) (τ := σ14) (c_X7_more (l := l) ka0 (res := (r13, σ14)) qr13) ka0 (by decide) (ci := 7) rfl (cwV 3 hts (bz_gV wd_14_14 wd_14_15 wd_14_16 wd_1_5 wd_14_17) rfl rfl rfl (by decide +kernel) ⟨Nat.le_of_ble_eq_true rfl, Nat.le_of_ble_eq_true rfl⟩) rfl hl.1 rfl (by decide) ⟨Nat.zero_le _, Nat.zero_le _⟩ dX7_goesOn_39 rfl (fun H locs h => ?_)
          refine lv_aload_n hx hb dX7_goesOn_42 rfl (lv_at hl 0 rfl) ?_
          refine lv_iload_n hx hb dX7_goesOn_43 rfl (lv_at hl 1 rfl) ?_
          obtain ⟨r15, σ16, qr15, hF⟩ := bd_u hF
          refine bz_callV (rest := []) (st1 := [.int r15]) C h (As := [.int x1_]) (o := some (.int r15)) (τ := σ16) (c_X7_draws (l := l) ka0 (res := (r15, σ16)) qr15) ka0 (by decide) (ci := 7) rfl (cwV 1 hts (bz_gV wd_21_7 wd_21_8 wd_21_9 wd_1_5 wd_21_10) rfl rfl rfl (by decide +kernel) ⟨Nat.le_of_ble_eq_true rfl, Nat.le_of_ble_eq_true rfl⟩) rfl hl.1 rfl (by decide) ⟨Nat.zero_le _, Nat.zero_le _⟩ dX7_goesOn_44 rfl (fun H locs h => ?_)
          refine lv_istore_n (lv' := [(3, .int r15), (0, .ref a0), (1, .int x1_), (2, .int r1)]) hx hb dX7_goesOn_47 rfl hl (by decide) rfl (fun ls hl => ?_)
          refine lv_iload_n hx hb dX7_goesOn_48 rfl (lv_at hl 0 rfl) ?_
          refine lv_iload_n hx hb dX7_goesOn_49 rfl (lv_at hl 0 rfl) ?_
          refine lv_imul hx hb dX7_goesOn_50 ?_
          refine lv_bipush (v := 10) hx hb dX7_goesOn_51 (by decide) ?_
          refine lv_idiv hx hb dX7_goesOn_53 (by decide) ?_
          refine lv_aload_n hx hb dX7_goesOn_54 rfl (lv_at hl 1 rfl) ?_
          refine lv_iload_n hx hb dX7_goesOn_55 rfl (lv_at hl 2 rfl) ?_
          refine lv_bipush (v := 7) hx hb dX7_goesOn_56 (by decide) ?_
          obtain ⟨r17, σ18, qr17, hF⟩ := bd_u hF
          refine bz_callV (rest := [.int ((r15 * r15) / 10)]) (st1 := [.int r17, .int ((r15 * r15) / 10)]) C h (As := [.int x1_, .int 7]) (o := some (.int r17)) (τ := σ18) (c_X7_of (l := l) ka0 (res := (r17, σ18)) qr17) ka0 (by decide) (ci := 7) rfl (cwV 2 hts (bz_gV wd_9_15 wd_9_16 wd_9_17 wd_1_5 wd_9_18) rfl rfl rfl (by decide +kernel) ⟨Nat.le_of_ble_eq_true rfl, Nat.le_of_ble_eq_true rfl⟩) rfl hl.1 rfl (Nat.le_of_ble_eq_true rfl) ⟨Nat.zero_le _, Nat.zero_le _⟩ dX7_goesOn_58 rfl (fun H locs h => ?_)
          obtain ⟨j21, ej21, hF⟩ := lt_j hF
          have hj21 : ∀ (y19 : Int32) (σ20 : bz_W) (H : Heap) (locs : List Loc) (ls : Array Slot), j21 y19 σ20 = some res → bz_H G s σ20 H locs → lv_has ls 7 [(0, .ref a0), (1, .int x1_), (2, .int r1)] → W p l e ({ frames := 3, cells := 0, slots := 0, locals := 64 } : Room) s m args below meth c H locs 0 0 (MQ below (bz_Qc G none res.2) args s 0 0 (bz_A G)) (F0 m 69 ls [.int y19, .int ((r15 * r15) / 10)]) := by
              intro y19 σ20 H locs ls hF h hl
              subst ej21
              refine lv_imul hx hb dX7_goesOn_69 ?_
              refine lv_topi (fun x22 ex22 => ?_)
              have hF := lt_u hF x22 ex22
              refine lv_istore (lv' := [(4, .int x22), (0, .ref a0), (1, .int x1_), (2, .int r1)]) hx hb dX7_goesOn_70 hl (by decide) rfl (fun ls hl => ?_)
              refine lv_aload_n hx hb dX7_goesOn_72 rfl (lv_at hl 1 rfl) ?_
              refine lv_iload_n hx hb dX7_goesOn_73 rfl (lv_at hl 2 rfl) ?_
              refine lv_bipush (v := 12) hx hb dX7_goesOn_74 (by decide) ?_
              refine lv_iload hx hb dX7_goesOn_76 (lv_at hl 0 rfl) ?_
              obtain ⟨r23, σ24, qr23, hF⟩ := bd_u hF
              refine bz_callV (rest := []) (st1 := []) C h (As := [.int x1_, .int 12, .int x22]) (o := none) (τ := σ24) (c_X7_more (l := l) ka0 (res := (r23, σ24)) qr23) ka0 (by decide) (ci := 7) rfl (cwV 3 hts (bz_gV wd_14_14 wd_14_15 wd_14_16 wd_1_5 wd_14_17) rfl rfl rfl (by decide +kernel) ⟨Nat.le_of_ble_eq_true rfl, Nat.le_of_ble_eq_true rfl⟩) rfl hl.1 rfl (by decide) ⟨Nat.zero_le _, Nat.zero_le _⟩ dX7_goesOn_78 rfl (fun H locs h => ?_)
              refine lv_aload_n hx hb dX7_goesOn_81 rfl (lv_at hl 1 rfl) ?_
              refine lv_iload_n hx hb dX7_goesOn_82 rfl (lv_at hl 2 rfl) ?_
              refine lv_bipush (v := 6) hx hb dX7_goesOn_83 (by decide) ?_
              refine lv_iload hx hb dX7_goesOn_85 (lv_at hl 0 rfl) ?_
              obtain ⟨r25, σ26, qr25, hF⟩ := bd_u hF
              refine bz_callV (rest := []) (st1 := []) C h (As := [.int x1_, .int 6, .int x22]) (o := none) (τ := σ26) (c_X7_more (l := l) ka0 (res := (r25, σ26)) qr25) ka0 (by decide) (ci := 7) rfl (cwV 3 hts (bz_gV wd_14_14 wd_14_15 wd_14_16 wd_1_5 wd_14_17) rfl rfl rfl (by decide +kernel) ⟨Nat.le_of_ble_eq_true rfl, Nat.le_of_ble_eq_true rfl⟩) rfl hl.1 rfl (by decide) ⟨Nat.zero_le _, Nat.zero_le _⟩ dX7_goesOn_87 rfl (fun H locs h => ?_)
              refine lv_aload_n hx hb dX7_goesOn_90 rfl (lv_at hl 1 rfl) ?_
              refine lv_iload_n hx hb dX7_goesOn_91 rfl (lv_at hl 2 rfl) ?_
              refine lv_bipush (v := 6) hx hb dX7_goesOn_92 (by decide) ?_
              obtain ⟨r27, σ28, qr27, hF⟩ := bd_u hF
              refine bz_callV (rest := []) (st1 := [.int r27]) C h (As := [.int x1_, .int 6]) (o := some (.int r27)) (τ := σ28) (c_X7_of (l := l) ka0 (res := (r27, σ28)) qr27) ka0 (by decide) (ci := 7) rfl (cwV 2 hts (bz_gV wd_9_15 wd_9_16 wd_9_17 wd_1_5 wd_9_18) rfl rfl rfl (by decide +kernel) ⟨Nat.le_of_ble_eq_true rfl, Nat.le_of_ble_eq_true rfl⟩) rfl hl.1 rfl (by decide) ⟨Nat.zero_le _, Nat.zero_le _⟩ dX7_goesOn_94 rfl (fun H locs h => ?_)
              refine lv_aload_n hx hb dX7_goesOn_97 rfl (lv_at hl 1 rfl) ?_
              refine lv_iload_n hx hb dX7_goesOn_98 rfl (lv_at hl 3 rfl) ?_
              obtain ⟨r29, σ30, qr29, hF⟩ := bd_u hF
              refine bz_callV (rest := [.int r27]) (st1 := [.int r29, .int r27]) C h (As := [.int r1]) (o := some (.int r29)) (τ := σ30) (c_X7_rate (l := l) ka0 (res := (r29, σ30)) qr29) ka0 (by decide) (ci := 7) rfl (cwV 1 hts (bz_gV wd_21_19 wd_21_20 wd_21_21 wd_1_5 wd_21_22) rfl rfl rfl (by decide +kernel) ⟨Nat.le_of_ble_eq_true rfl, Nat.le_of_ble_eq_true rfl⟩) rfl hl.1 rfl (Nat.le_of_ble_eq_true rfl) ⟨Nat.zero_le _, Nat.zero_le _⟩ dX7_goesOn_99 rfl (fun H locs h => ?_)
              refine lv_imul hx hb dX7_goesOn_102 ?_
              refine lv_sipush (v := 1000) hx hb dX7_goesOn_103 (by decide) ?_
              refine lv_idiv hx hb dX7_goesOn_106 (by decide) ?_
              refine lv_topi (fun x31 ex31 => ?_)
              have hF := lt_u hF x31 ex31
              refine lv_istore (lv' := [(5, .int x31), (4, .int x22), (0, .ref a0), (1, .int x1_), (2, .int r1)]) hx hb dX7_goesOn_107 hl (by decide) rfl (fun ls hl => ?_)
              refine lv_aload_n hx hb dX7_goesOn_109 rfl (lv_at hl 2 rfl) ?_
              refine lv_iload_n hx hb dX7_goesOn_110 rfl (lv_at hl 3 rfl) ?_
              refine lv_bipush (v := 13) hx hb dX7_goesOn_111 (by decide) ?_
              refine lv_iload hx hb dX7_goesOn_113 (lv_at hl 0 rfl) ?_
              obtain ⟨r32, σ33, qr32, hF⟩ := bd_u hF
              refine bz_callV (rest := []) (st1 := []) C h (As := [.int x1_, .int 13, .int x31]) (o := none) (τ := σ33) (c_X7_more (l := l) ka0 (res := (r32, σ33)) qr32) ka0 (by decide) (ci := 7) rfl (cwV 3 hts (bz_gV wd_14_14 wd_14_15 wd_14_16 wd_1_5 wd_14_17) rfl rfl rfl (by decide +kernel) ⟨Nat.le_of_ble_eq_true rfl, Nat.le_of_ble_eq_true rfl⟩) rfl hl.1 rfl (by decide) ⟨Nat.zero_le _, Nat.zero_le _⟩ dX7_goesOn_115 rfl (fun H locs h => ?_)
              refine lv_aload_n hx hb dX7_goesOn_118 rfl (lv_at hl 2 rfl) ?_
              refine lv_iload_n hx hb dX7_goesOn_119 rfl (lv_at hl 3 rfl) ?_
              refine lv_bipush (v := 6) hx hb dX7_goesOn_120 (by decide) ?_
              refine lv_iload hx hb dX7_goesOn_122 (lv_at hl 0 rfl) ?_
              refine lv_ineg hx hb dX7_goesOn_124 ?_
              obtain ⟨r34, σ35, qr34, hF⟩ := bd_u hF
              refine bz_callV (rest := []) (st1 := []) C h (As := [.int x1_, .int 6, .int (-x31)]) (o := none) (τ := σ35) (c_X7_more (l := l) ka0 (res := (r34, σ35)) qr34) ka0 (by decide) (ci := 7) rfl (cwV 3 hts (bz_gV wd_14_14 wd_14_15 wd_14_16 wd_1_5 wd_14_17) rfl rfl rfl (by decide +kernel) ⟨Nat.le_of_ble_eq_true rfl, Nat.le_of_ble_eq_true rfl⟩) rfl hl.1 rfl (by decide) ⟨Nat.zero_le _, Nat.zero_le _⟩ dX7_goesOn_125 rfl (fun H locs h => ?_)
              refine lv_aload_n hx hb dX7_goesOn_128 rfl (lv_at hl 2 rfl) ?_
              refine lv_iload_n hx hb dX7_goesOn_129 rfl (lv_at hl 3 rfl) ?_
              refine lv_iconst (v := 5) hx hb dX7_goesOn_130 (by decide) ?_
              obtain ⟨r36, σ37, qr36, hF⟩ := bd_u hF
              refine bz_callV (rest := []) (st1 := [.int r36]) C h (As := [.int x1_, .int 5]) (o := some (.int r36)) (τ := σ37) (c_X7_of (l := l) ka0 (res := (r36, σ37)) qr36) ka0 (by decide) (ci := 7) rfl (cwV 2 hts (bz_gV wd_9_15 wd_9_16 wd_9_17 wd_1_5 wd_9_18) rfl rfl rfl (by decide +kernel) ⟨Nat.le_of_ble_eq_true rfl, Nat.le_of_ble_eq_true rfl⟩) rfl hl.1 rfl (by decide) ⟨Nat.zero_le _, Nat.zero_le _⟩ dX7_goesOn_131 rfl (fun H locs h => ?_)
              refine lv_iconst (v := 3) hx hb dX7_goesOn_134 (by decide) ?_
              obtain ⟨j40, ej40, hF⟩ := lt_j hF
              have hj40 : ∀ (y38 : Int32) (σ39 : bz_W) (H : Heap) (locs : List Loc) (ls : Array Slot), j40 y38 σ39 = some res → bz_H G s σ39 H locs → lv_has ls 7 [(0, .ref a0), (1, .int x1_), (2, .int r1)] → W p l e ({ frames := 3, cells := 0, slots := 0, locals := 64 } : Room) s m args below meth c H locs 0 0 (MQ below (bz_Qc G none res.2) args s 0 0 (bz_A G)) (F0 m 153 ls [.int y38]) := by
                  intro y38 σ39 H locs ls hF h hl
                  subst ej40
                  refine lv_istore (lv' := [(6, .int y38), (0, .ref a0), (1, .int x1_), (2, .int r1)]) hx hb dX7_goesOn_153 hl (by decide) rfl (fun ls hl => ?_)
                  refine lv_aload_n hx hb dX7_goesOn_155 rfl (lv_at hl 1 rfl) ?_
                  refine lv_iload_n hx hb dX7_goesOn_156 rfl (lv_at hl 2 rfl) ?_
                  refine lv_bipush (v := 10) hx hb dX7_goesOn_157 (by decide) ?_
                  refine lv_iload hx hb dX7_goesOn_159 (lv_at hl 0 rfl) ?_
                  obtain ⟨j43, ej43, hF⟩ := lt_j hF
                  have hj43 : ∀ (y41 : Int32) (σ42 : bz_W) (H : Heap) (locs : List Loc) (ls : Array Slot), j43 y41 σ42 = some res → bz_H G s σ42 H locs → lv_has ls 7 [(0, .ref a0), (1, .int x1_), (2, .int r1)] → W p l e ({ frames := 3, cells := 0, slots := 0, locals := 64 } : Room) s m args below meth c H locs 0 0 (MQ below (bz_Qc G none res.2) args s 0 0 (bz_A G)) (F0 m 177 ls [.int y41, .int 10, .int x1_, .ref a0]) := by
                      intro y41 σ42 H locs ls hF h hl
                      subst ej43
                      obtain ⟨r44, σ45, qr44, hF⟩ := bd_u hF
                      refine bz_callV (rest := []) (st1 := []) C h (As := [.int x1_, .int 10, .int y41]) (o := none) (τ := σ45) (c_X7_put (l := l) ka0 (res := (r44, σ45)) qr44) ka0 (by decide) (ci := 7) rfl (cwV 3 hts (bz_gV wd_8_18 wd_8_19 wd_8_20 wd_1_5 wd_8_21) rfl rfl rfl (by decide +kernel) ⟨Nat.le_of_ble_eq_true rfl, Nat.le_of_ble_eq_true rfl⟩) rfl hl.1 rfl (by decide) ⟨Nat.zero_le _, Nat.zero_le _⟩ dX7_goesOn_177 rfl (fun H locs h => ?_)
                      refine lv_iload_n hx hb dX7_goesOn_180 rfl (lv_at hl 2 rfl) ?_
                      refine lv_if_ne (tgt := 185) hx hb dX7_goesOn_181 (by decide) (fun c46 => ?_) (fun c46 => ?_)
                      · have hF := it_f hF c46
                        refine lv_aload_n hx hb dX7_goesOn_185 rfl (lv_at hl 0 rfl) ?_
                        refine lv_iload_n hx hb dX7_goesOn_186 rfl (lv_at hl 1 rfl) ?_
                        refine lv_bipush (v := 6) hx hb dX7_goesOn_187 (by decide) ?_
                        obtain ⟨r47, σ48, qr47, hF⟩ := bd_u hF
                        refine bz_callV (rest := []) (st1 := [.int r47]) C h (As := [.int x1_, .int 6]) (o := some (.int r47)) (τ := σ48) (c_X7_of (l := l) ka0 (res := (r47, σ48)) qr47) ka0 (by decide) (ci := 7) rfl (cwV 2 hts (bz_gV wd_9_15 wd_9_16 wd_9_17 wd_1_5 wd_9_18) rfl rfl rfl (by decide +kernel) ⟨Nat.le_of_ble_eq_true rfl, Nat.le_of_ble_eq_true rfl⟩) rfl hl.1 rfl (by decide) ⟨Nat.zero_le _, Nat.zero_le _⟩ dX7_goesOn_189 rfl (fun H locs h => ?_)
                        refine lv_aload_n hx hb dX7_goesOn_192 rfl (lv_at hl 0 rfl) ?_
                        refine lv_iload_n hx hb dX7_goesOn_193 rfl (lv_at hl 1 rfl) ?_
                        refine lv_iconst (v := 3) hx hb dX7_goesOn_194 (by decide) ?_
                        obtain ⟨r49, σ50, qr49, hF⟩ := bd_u hF
                        refine bz_callV (rest := [.int r47]) (st1 := [.int r49, .int r47]) C h (As := [.int x1_, .int 3]) (o := some (.int r49)) (τ := σ50) (c_X7_of (l := l) ka0 (res := (r49, σ50)) qr49) ka0 (by decide) (ci := 7) rfl (cwV 2 hts (bz_gV wd_9_15 wd_9_16 wd_9_17 wd_1_5 wd_9_18) rfl rfl rfl (by decide +kernel) ⟨Nat.le_of_ble_eq_true rfl, Nat.le_of_ble_eq_true rfl⟩) rfl hl.1 rfl (Nat.le_of_ble_eq_true rfl) ⟨Nat.zero_le _, Nat.zero_le _⟩ dX7_goesOn_195 rfl (fun H locs h => ?_)
                        refine lv_icmp_le (tgt := 210) hx hb dX7_goesOn_198 (by decide) (fun c51 => ?_) (fun c51 => ?_)
                        · have hF := it_t hF c51
                          refine lv_aload_n hx hb dX7_goesOn_210 rfl (lv_at hl 0 rfl) ?_
                          refine lv_iload_n hx hb dX7_goesOn_211 rfl (lv_at hl 1 rfl) ?_
                          refine lv_bipush (v := 10) hx hb dX7_goesOn_212 (by decide) ?_
                          obtain ⟨r52, σ53, qr52, hF⟩ := bd_u hF
                          refine bz_callV (rest := []) (st1 := [.int r52]) C h (As := [.int x1_, .int 10]) (o := some (.int r52)) (τ := σ53) (c_X7_of (l := l) ka0 (res := (r52, σ53)) qr52) ka0 (by decide) (ci := 7) rfl (cwV 2 hts (bz_gV wd_9_15 wd_9_16 wd_9_17 wd_1_5 wd_9_18) rfl rfl rfl (by decide +kernel) ⟨Nat.le_of_ble_eq_true rfl, Nat.le_of_ble_eq_true rfl⟩) rfl hl.1 rfl (by decide) ⟨Nat.zero_le _, Nat.zero_le _⟩ dX7_goesOn_214 rfl (fun H locs h => ?_)
                          refine lv_iconst (v := 3) hx hb dX7_goesOn_217 (by decide) ?_
                          refine lv_icmp_ne (tgt := 230) hx hb dX7_goesOn_218 (by decide) (fun c54 => ?_) (fun c54 => ?_)
                          · have hF := it_f hF c54
                            refine lv_aload_n hx hb dX7_goesOn_230 rfl (lv_at hl 0 rfl) ?_
                            refine lv_iload_n hx hb dX7_goesOn_231 rfl (lv_at hl 1 rfl) ?_
                            refine lv_iconst (v := 5) hx hb dX7_goesOn_232 (by decide) ?_
                            obtain ⟨r55, σ56, qr55, hF⟩ := bd_u hF
                            refine bz_callV (rest := []) (st1 := [.int r55]) C h (As := [.int x1_, .int 5]) (o := some (.int r55)) (τ := σ56) (c_X7_of (l := l) ka0 (res := (r55, σ56)) qr55) ka0 (by decide) (ci := 7) rfl (cwV 2 hts (bz_gV wd_9_15 wd_9_16 wd_9_17 wd_1_5 wd_9_18) rfl rfl rfl (by decide +kernel) ⟨Nat.le_of_ble_eq_true rfl, Nat.le_of_ble_eq_true rfl⟩) rfl hl.1 rfl (by decide) ⟨Nat.zero_le _, Nat.zero_le _⟩ dX7_goesOn_233 rfl (fun H locs h => ?_)
                            refine lv_iconst (v := 2) hx hb dX7_goesOn_236 (by decide) ?_
                            refine lv_icmp_ne (tgt := 277) hx hb dX7_goesOn_237 (by decide) (fun c57 => ?_) (fun c57 => ?_)
                            · have hF := it_f hF c57
                              exact bz_vret C h hlocks hr hF dX7_goesOn_277
                            · have hF := it_t hF c57
                              refine lv_aload_n hx hb dX7_goesOn_240 rfl (lv_at hl 0 rfl) ?_
                              refine lv_iload_n hx hb dX7_goesOn_241 rfl (lv_at hl 1 rfl) ?_
                              refine lv_bipush (v := 8) hx hb dX7_goesOn_242 (by decide) ?_
                              refine lv_iconst (v := 1) hx hb dX7_goesOn_244 (by decide) ?_
                              obtain ⟨r58, σ59, qr58, hF⟩ := bd_u hF
                              refine bz_callV (rest := []) (st1 := []) C h (As := [.int x1_, .int 8, .int 1]) (o := none) (τ := σ59) (c_X7_more (l := l) ka0 (res := (r58, σ59)) qr58) ka0 (by decide) (ci := 7) rfl (cwV 3 hts (bz_gV wd_14_14 wd_14_15 wd_14_16 wd_1_5 wd_14_17) rfl rfl rfl (by decide +kernel) ⟨Nat.le_of_ble_eq_true rfl, Nat.le_of_ble_eq_true rfl⟩) rfl hl.1 rfl (by decide) ⟨Nat.zero_le _, Nat.zero_le _⟩ dX7_goesOn_245 rfl (fun H locs h => ?_)
                              refine lv_aload_n hx hb dX7_goesOn_248 rfl (lv_at hl 0 rfl) ?_
                              refine lv_iload_n hx hb dX7_goesOn_249 rfl (lv_at hl 1 rfl) ?_
                              refine lv_bipush (v := 8) hx hb dX7_goesOn_250 (by decide) ?_
                              obtain ⟨r60, σ61, qr60, hF⟩ := bd_u hF
                              refine bz_callV (rest := []) (st1 := [.int r60]) C h (As := [.int x1_, .int 8]) (o := some (.int r60)) (τ := σ61) (c_X7_of (l := l) ka0 (res := (r60, σ61)) qr60) ka0 (by decide) (ci := 7) rfl (cwV 2 hts (bz_gV wd_9_15 wd_9_16 wd_9_17 wd_1_5 wd_9_18) rfl rfl rfl (by decide +kernel) ⟨Nat.le_of_ble_eq_true rfl, Nat.le_of_ble_eq_true rfl⟩) rfl hl.1 rfl (by decide) ⟨Nat.zero_le _, Nat.zero_le _⟩ dX7_goesOn_252 rfl (fun H locs h => ?_)
                              refine lv_aload_n hx hb dX7_goesOn_255 rfl (lv_at hl 0 rfl) ?_
                              refine lv_iload_n hx hb dX7_goesOn_256 rfl (lv_at hl 1 rfl) ?_
                              refine lv_iconst (v := 1) hx hb dX7_goesOn_257 (by decide) ?_
                              obtain ⟨r62, σ63, qr62, hF⟩ := bd_u hF
                              refine bz_callV (rest := [.int r60]) (st1 := [.int r62, .int r60]) C h (As := [.int x1_, .int 1]) (o := some (.int r62)) (τ := σ63) (c_X7_of (l := l) ka0 (res := (r62, σ63)) qr62) ka0 (by decide) (ci := 7) rfl (cwV 2 hts (bz_gV wd_9_15 wd_9_16 wd_9_17 wd_1_5 wd_9_18) rfl rfl rfl (by decide +kernel) ⟨Nat.le_of_ble_eq_true rfl, Nat.le_of_ble_eq_true rfl⟩) rfl hl.1 rfl (Nat.le_of_ble_eq_true rfl) ⟨Nat.zero_le _, Nat.zero_le _⟩ dX7_goesOn_258 rfl (fun H locs h => ?_)
                              refine lv_icmp_ne (tgt := 277) hx hb dX7_goesOn_261 (by decide) (fun c64 => ?_) (fun c64 => ?_)
                              · have hF := it_f hF c64
                                exact bz_vret C h hlocks hr hF dX7_goesOn_277
                              · have hF := it_t hF c64
                                refine lv_aload_n hx hb dX7_goesOn_264 rfl (lv_at hl 0 rfl) ?_
                                refine lv_iload_n hx hb dX7_goesOn_265 rfl (lv_at hl 1 rfl) ?_
                                refine lv_iconst (v := 5) hx hb dX7_goesOn_266 (by decide) ?_
                                refine lv_iconst (v := 3) hx hb dX7_goesOn_267 (by decide) ?_
                                obtain ⟨r65, σ66, qr65, hF⟩ := bd_u hF
                                refine bz_callV (rest := []) (st1 := []) C h (As := [.int x1_, .int 5, .int 3]) (o := none) (τ := σ66) (c_X7_put (l := l) ka0 (res := (r65, σ66)) qr65) ka0 (by decide) (ci := 7) rfl (cwV 3 hts (bz_gV wd_8_18 wd_8_19 wd_8_20 wd_1_5 wd_8_21) rfl rfl rfl (by decide +kernel) ⟨Nat.le_of_ble_eq_true rfl, Nat.le_of_ble_eq_true rfl⟩) rfl hl.1 rfl (by decide) ⟨Nat.zero_le _, Nat.zero_le _⟩ dX7_goesOn_268 rfl (fun H locs h => ?_)
                                refine lv_aload_n hx hb dX7_goesOn_271 rfl (lv_at hl 0 rfl) ?_
                                refine lv_iload_n hx hb dX7_goesOn_272 rfl (lv_at hl 1 rfl) ?_
                                refine lv_iconst (v := 2) hx hb dX7_goesOn_273 (by decide) ?_
                                obtain ⟨r67, σ68, qr67, hF⟩ := bd_u hF
                                refine bz_callV (rest := []) (st1 := []) C h (As := [.int x1_, .int 2]) (o := none) (τ := σ68) (c_X7_note (l := l) ka0 (res := (r67, σ68)) qr67) ka0 (by decide) (ci := 7) rfl (cwV 2 hts (bz_gV wd_14_6 wd_14_7 wd_14_8 wd_1_5 wd_14_9) rfl rfl rfl (by decide +kernel) ⟨Nat.le_of_ble_eq_true rfl, Nat.le_of_ble_eq_true rfl⟩) rfl hl.1 rfl (by decide) ⟨Nat.zero_le _, Nat.zero_le _⟩ dX7_goesOn_274 rfl (fun H locs h => ?_)
                                exact bz_vret C h hlocks hr hF dX7_goesOn_277
                          · have hF := it_t hF c54
                            refine lv_aload_n hx hb dX7_goesOn_221 rfl (lv_at hl 0 rfl) ?_
                            refine lv_iload_n hx hb dX7_goesOn_222 rfl (lv_at hl 1 rfl) ?_
                            refine lv_iconst (v := 4) hx hb dX7_goesOn_223 (by decide) ?_
                            obtain ⟨r69, σ70, qr69, hF⟩ := bd_u hF
                            refine bz_callV (rest := []) (st1 := []) C h (As := [.int x1_, .int 4]) (o := none) (τ := σ70) (c_X7_trip (l := l) ka0 (res := (r69, σ70)) qr69) ka0 (by decide) (ci := 7) rfl (cwV 2 hts (bz_gV wd_14_10 wd_14_11 wd_14_12 wd_1_5 wd_14_13) rfl rfl rfl (by decide +kernel) ⟨Nat.le_of_ble_eq_true rfl, Nat.le_of_ble_eq_true rfl⟩) rfl hl.1 rfl (by decide) ⟨Nat.zero_le _, Nat.zero_le _⟩ dX7_goesOn_224 rfl (fun H locs h => ?_)
                            refine lv_goto (tgt := 277) hx hb dX7_goesOn_227 (by decide) ?_
                            exact bz_vret C h hlocks hr hF dX7_goesOn_277
                        · have hF := it_f hF c51
                          refine lv_aload_n hx hb dX7_goesOn_201 rfl (lv_at hl 0 rfl) ?_
                          refine lv_iload_n hx hb dX7_goesOn_202 rfl (lv_at hl 1 rfl) ?_
                          refine lv_iconst (v := 2) hx hb dX7_goesOn_203 (by decide) ?_
                          obtain ⟨r71, σ72, qr71, hF⟩ := bd_u hF
                          refine bz_callV (rest := []) (st1 := []) C h (As := [.int x1_, .int 2]) (o := none) (τ := σ72) (c_X7_trip (l := l) ka0 (res := (r71, σ72)) qr71) ka0 (by decide) (ci := 7) rfl (cwV 2 hts (bz_gV wd_14_10 wd_14_11 wd_14_12 wd_1_5 wd_14_13) rfl rfl rfl (by decide +kernel) ⟨Nat.le_of_ble_eq_true rfl, Nat.le_of_ble_eq_true rfl⟩) rfl hl.1 rfl (by decide) ⟨Nat.zero_le _, Nat.zero_le _⟩ dX7_goesOn_204 rfl (fun H locs h => ?_)
                          refine lv_goto (tgt := 277) hx hb dX7_goesOn_207 (by decide) ?_
                          exact bz_vret C h hlocks hr hF dX7_goesOn_277
                      · have hF := it_t hF c46
                        exact bz_vret C h hlocks hr hF dX7_goesOn_184
                  refine lv_if_eq (tgt := 176) hx hb dX7_goesOn_161 (by decide) (fun c73 => ?_) (fun c73 => ?_)
                  · have hF := it_t hF c73
                    refine lv_iconst (v := 0) hx hb dX7_goesOn_176 (by decide) ?_
                    exact hj43 _ _ H locs ls hF h (lv_sub hl [1, 2, 3] rfl)
                  · have hF := it_f hF c73
                    refine lv_aload_n hx hb dX7_goesOn_164 rfl (lv_at hl 1 rfl) ?_
                    refine lv_iload_n hx hb dX7_goesOn_165 rfl (lv_at hl 2 rfl) ?_
                    refine lv_bipush (v := 10) hx hb dX7_goesOn_166 (by decide) ?_
                    obtain ⟨r74, σ75, qr74, hF⟩ := bd_u hF
                    refine bz_callV (rest := [.int 10, .int x1_, .ref a0]) (st1 := [.int r74, .int 10, .int x1_, .ref a0]) C h (As := [.int x1_, .int 10]) (o := some (.int r74)) (τ := σ75) (c_X7_of (l := l) ka0 (res := (r74, σ75)) qr74) ka0 (by decide) (ci := 7) rfl (cwV 2 hts (bz_gV wd_9_15 wd_9_16 wd_9_17 wd_1_5 wd_9_18) rfl rfl rfl (by decide +kernel) ⟨Nat.le_of_ble_eq_true rfl, Nat.le_of_ble_eq_true rfl⟩) rfl hl.1 rfl (Nat.le_of_ble_eq_true rfl) ⟨Nat.zero_le _, Nat.zero_le _⟩ dX7_goesOn_168 rfl (fun H locs h => ?_)
                    refine lv_iconst (v := 1) hx hb dX7_goesOn_171 (by decide) ?_
                    refine lv_iadd hx hb dX7_goesOn_172 ?_
                    refine lv_goto (tgt := 177) hx hb dX7_goesOn_173 (by decide) ?_
                    exact hj43 _ _ H locs ls hF h (lv_sub hl [1, 2, 3] rfl)
              obtain ⟨j77, ej77, hF⟩ := lt_j hF
              have hj77 : ∀ (σ76 : bz_W) (H : Heap) (locs : List Loc) (ls : Array Slot), j77 σ76 = some res → bz_H G s σ76 H locs → lv_has ls 7 [(0, .ref a0), (1, .int x1_), (2, .int r1)] → W p l e ({ frames := 3, cells := 0, slots := 0, locals := 64 } : Room) s m args below meth c H locs 0 0 (MQ below (bz_Qc G none res.2) args s 0 0 (bz_A G)) (F0 m 152 ls []) := by
                  intro σ76 H locs ls hF h hl
                  subst ej77
                  refine lv_iconst (v := 0) hx hb dX7_goesOn_152 (by decide) ?_
                  exact hj40 _ _ H locs ls hF h (lv_sub hl [0, 1, 2] rfl)
              refine lv_icmp_ne (tgt := 152) hx hb dX7_goesOn_135 (by decide) (fun c78 => ?_) (fun c78 => ?_)
              · have hF := it_f hF c78
                exact hj77 _ H locs ls hF h (lv_sub hl [2, 3, 4] rfl)
              · have hF := it_t hF c78
                refine lv_aload_n hx hb dX7_goesOn_138 rfl (lv_at hl 2 rfl) ?_
                refine lv_iload_n hx hb dX7_goesOn_139 rfl (lv_at hl 3 rfl) ?_
                refine lv_bipush (v := 7) hx hb dX7_goesOn_140 (by decide) ?_
                obtain ⟨r79, σ80, qr79, hF⟩ := bd_u hF
                refine bz_callV (rest := []) (st1 := [.int r79]) C h (As := [.int x1_, .int 7]) (o := some (.int r79)) (τ := σ80) (c_X7_of (l := l) ka0 (res := (r79, σ80)) qr79) ka0 (by decide) (ci := 7) rfl (cwV 2 hts (bz_gV wd_9_15 wd_9_16 wd_9_17 wd_1_5 wd_9_18) rfl rfl rfl (by decide +kernel) ⟨Nat.le_of_ble_eq_true rfl, Nat.le_of_ble_eq_true rfl⟩) rfl hl.1 rfl (by decide) ⟨Nat.zero_le _, Nat.zero_le _⟩ dX7_goesOn_142 rfl (fun H locs h => ?_)
                refine lv_if_eq (tgt := 152) hx hb dX7_goesOn_145 (by decide) (fun c81 => ?_) (fun c81 => ?_)
                · have hF := it_t hF c81
                  exact hj77 _ H locs ls hF h (lv_sub hl [2, 3, 4] rfl)
                · have hF := it_f hF c81
                  refine lv_iconst (v := 1) hx hb dX7_goesOn_148 (by decide) ?_
                  refine lv_goto (tgt := 153) hx hb dX7_goesOn_149 (by decide) ?_
                  exact hj40 _ _ H locs ls hF h (lv_sub hl [2, 3, 4] rfl)
          refine lv_if_ne (tgt := 68) hx hb dX7_goesOn_61 (by decide) (fun c82 => ?_) (fun c82 => ?_)
          · have hF := it_f hF c82
            refine lv_iconst (v := 2) hx hb dX7_goesOn_68 (by decide) ?_
            exact hj21 _ _ H locs ls hF h (lv_sub hl [1, 2, 3] rfl)
          · have hF := it_t hF c82
            refine lv_iconst (v := 1) hx hb dX7_goesOn_64 (by decide) ?_
            refine lv_goto (tgt := 69) hx hb dX7_goesOn_65 (by decide) ?_
            exact hj21 _ _ H locs ls hF h (lv_sub hl [1, 2, 3] rfl)
      refine lv_if_eq (tgt := 38) hx hb dX7_goesOn_31 (by decide) (fun c83 => ?_) (fun c83 => ?_)
      · have hF := it_t hF c83
        refine lv_iconst (v := 0) hx hb dX7_goesOn_38 (by decide) ?_
        exact hj12 _ _ H locs ls hF h (lv_sub hl [0, 1, 2] rfl)
      · have hF := it_f hF c83
        refine lv_iconst (v := 1) hx hb dX7_goesOn_34 (by decide) ?_
        refine lv_goto (tgt := 39) hx hb dX7_goesOn_35 (by decide) ?_
        exact hj12 _ _ H locs ls hF h (lv_sub hl [0, 1, 2] rfl)
  refine lv_if_eq (tgt := 18) hx hb dX7_goesOn_11 (by decide) (fun c84 => ?_) (fun c84 => ?_)
  · have hF := it_t hF c84
    refine lv_iconst (v := 0) hx hb dX7_goesOn_18 (by decide) ?_
    exact hj5 _ _ H locs ls hF h (lv_sub hl [1, 2, 0] rfl)
  · have hF := it_f hF c84
    refine lv_iconst (v := 1) hx hb dX7_goesOn_14 (by decide) ?_
    refine lv_goto (tgt := 19) hx hb dX7_goesOn_15 (by decide) ?_
    exact hj5 _ _ H locs ls hF h (lv_sub hl [1, 2, 0] rfl)
set_option maxHeartbeats 4000000 in
set_option maxRecDepth 100000 in
theorem L_X7_pass_L40 {p : Program} {l : Launch} {e : Env} {s : State} {m : MethodId} {args : Array Value} {below : List Frame} {meth : Method} {c : Code} {G : bz_G} (C : bz_C p s m c args cX7_pass 5 RX7 wz_X7_pass G) (hlocks : meth.locks = false) (hr : meth.sig.returnType = (some .int)) {a0 : Nat} {a1 : Int32} {a2 : Int32} {a3 : Int32} (ka0 : bz_k G a0 = (8, 0)) {k : bz_W → Option (Int32 × bz_W)} {res : Int32 × bz_W} : ∀ (n : Nat) (v4 : Int32) (σ : bz_W) (H : Heap) (locs : List Loc) (ls : Array Slot), f_X7_pass_L40 a0 a1 a2 a3 k n v4 σ = some res → bz_H G s σ H locs → lv_has ls 5 [(0, .ref a0), (1, .int a1), (2, .int a2), (3, .int a3), (4, .int v4)] → (∀ (σ : bz_W) (H : Heap) (locs : List Loc) (ls : Array Slot), k σ = some res → bz_H G s σ H locs → lv_has ls 5 [(0, .ref a0), (1, .int a1), (2, .int a2), (3, .int a3)] → W p l e ({ frames := 6, cells := 0, slots := 0, locals := 135 } : Room) s m args below meth c H locs 0 0 (MQ below (bz_Qc G (some (.int res.1)) res.2) args s 0 0 (bz_A G)) (F0 m 63 ls [])) → W p l e ({ frames := 6, cells := 0, slots := 0, locals := 135 } : Room) s m args below meth c H locs 0 0 (MQ below (bz_Qc G (some (.int res.1)) res.2) args s 0 0 (bz_A G)) (F0 m 40 ls []) := by
  have hx := C.1
  have hb := C.2.1
  have hts := C.2.2.2.2.1
  intro n
  induction n with
  | zero =>
    intro v4 σ H locs ls hF
    exact absurd hF (by simp [f_X7_pass_L40])
  | succ n ih =>
    intro v4 σ H locs ls hF h hl hk
    rw [f_X7_pass_L40] at hF
    refine lv_iload hx hb dX7_pass_40 (lv_at hl 4 rfl) ?_
    refine lv_aload_n hx hb dX7_pass_42 rfl (lv_at hl 0 rfl) ?_
    refine gf_7_0 C h ka0 iz_X7 (List.mem_cons_of_mem _ wd_4_13) dX7_pass_43 (fun k12 => ?_)
    refine lv_iconst (v := 0) hx hb dX7_pass_46 (by decide) ?_
    refine bz_iald C h k12 (by decide) (kx := 0) (bz_cl 0 (by decide)) dX7_pass_47 ?_
    refine lv_icmp_ge (tgt := 63) hx hb dX7_pass_48 (by decide) (fun c13 => ?_) (fun c13 => ?_)
    · have hF := it_t hF c13
      exact hk _ H locs ls hF h (lv_sub hl [0, 1, 2, 3] rfl)
    · have hF := it_f hF c13
      refine lv_aload_n hx hb dX7_pass_51 rfl (lv_at hl 0 rfl) ?_
      refine lv_iload hx hb dX7_pass_52 (lv_at hl 4 rfl) ?_
      obtain ⟨r14, σ15, qr14, hF⟩ := bd_u hF
      refine bz_callV (rest := []) (st1 := []) C h (As := [.int v4]) (o := none) (τ := σ15) (c_X7_goesOn (l := l) ka0 (res := (r14, σ15)) qr14) ka0 (by decide) (ci := 7) rfl (cwV 1 hts (bz_gV wd_21_11 wd_21_12 wd_21_13 wd_1_5 wd_21_14) rfl rfl rfl (by decide +kernel) ⟨Nat.le_of_ble_eq_true rfl, Nat.le_of_ble_eq_true rfl⟩) rfl hl.1 rfl (by decide) ⟨Nat.zero_le _, Nat.zero_le _⟩ dX7_pass_54 rfl (fun H locs h => ?_)
      obtain ⟨x16, ex16⟩ : ∃ y : Int32, y = v4 + 1 := ⟨_, rfl⟩
      have hF := lt_u hF x16 ex16
      refine lv_iinc (v := x16) (lv' := [(4, .int x16), (0, .ref a0), (1, .int a1), (2, .int a2), (3, .int a3)]) hx hb dX7_pass_57 hl (k := 4) rfl (by rw [ex16]; rfl) (by decide) rfl (fun ls hl => ?_)
      refine lv_goto (tgt := 40) hx hb dX7_pass_60 (by decide) ?_
      exact ih _ _ H locs ls hF h (lv_sub hl [1, 2, 3, 4, 0] rfl) hk
set_option maxHeartbeats 4000000 in
set_option maxRecDepth 100000 in
theorem L_X7_pass_L21 {p : Program} {l : Launch} {e : Env} {s : State} {m : MethodId} {args : Array Value} {below : List Frame} {meth : Method} {c : Code} {G : bz_G} (C : bz_C p s m c args cX7_pass 5 RX7 wz_X7_pass G) (hlocks : meth.locks = false) (hr : meth.sig.returnType = (some .int)) {a0 : Nat} {a1 : Int32} (ka0 : bz_k G a0 = (8, 0)) {k : Int32 → bz_W → Option (Int32 × bz_W)} {res : Int32 × bz_W} : ∀ (n : Nat) (v2 : Int32) (v3 : Int32) (σ : bz_W) (H : Heap) (locs : List Loc) (ls : Array Slot), f_X7_pass_L21 a0 a1 k n v2 v3 σ = some res → bz_H G s σ H locs → lv_has ls 5 [(0, .ref a0), (1, .int a1), (2, .int v2), (3, .int v3)] → (∀ (w2 : Int32) (σ : bz_W) (H : Heap) (locs : List Loc) (ls : Array Slot), k w2 σ = some res → bz_H G s σ H locs → lv_has ls 5 [(2, .int w2)] → W p l e ({ frames := 6, cells := 0, slots := 0, locals := 135 } : Room) s m args below meth c H locs 0 0 (MQ below (bz_Qc G (some (.int res.1)) res.2) args s 0 0 (bz_A G)) (F0 m 79 ls [])) → W p l e ({ frames := 6, cells := 0, slots := 0, locals := 135 } : Room) s m args below meth c H locs 0 0 (MQ below (bz_Qc G (some (.int res.1)) res.2) args s 0 0 (bz_A G)) (F0 m 21 ls []) := by
  have hx := C.1
  have hb := C.2.1
  have hts := C.2.2.2.2.1
  intro n
  induction n with
  | zero =>
    intro v2 v3 σ H locs ls hF
    exact absurd hF (by simp [f_X7_pass_L21])
  | succ n ih =>
    intro v2 v3 σ H locs ls hF h hl hk
    rw [f_X7_pass_L21] at hF
    refine lv_iload_n hx hb dX7_pass_21 rfl (lv_at hl 3 rfl) ?_
    refine lv_iload_n hx hb dX7_pass_22 rfl (lv_at hl 1 rfl) ?_
    refine lv_icmp_ge (tgt := 79) hx hb dX7_pass_23 (by decide) (fun c6 => ?_) (fun c6 => ?_)
    · have hF := it_t hF c6
      exact hk _ _ H locs ls hF h (lv_sub hl [2] rfl)
    · have hF := it_f hF c6
      refine lv_aload_n hx hb dX7_pass_26 rfl (lv_at hl 0 rfl) ?_
      obtain ⟨r7, σ8, qr7, hF⟩ := bd_u hF
      refine bz_callV (rest := []) (st1 := []) C h (As := []) (o := none) (τ := σ8) (c_X7_carryOutItems (l := l) ka0 (res := (r7, σ8)) qr7) ka0 (by decide) (ci := 7) rfl (cwV 0 hts (bz_gV wd_19_20 wd_19_21 wd_19_22 wd_1_5 wd_19_23) rfl rfl rfl (by decide +kernel) ⟨Nat.le_of_ble_eq_true rfl, Nat.le_of_ble_eq_true rfl⟩) rfl hl.1 rfl (by decide) ⟨Nat.zero_le _, Nat.zero_le _⟩ dX7_pass_27 rfl (fun H locs h => ?_)
      refine lv_iload_n hx hb dX7_pass_30 rfl (lv_at hl 2 rfl) ?_
      refine lv_aload_n hx hb dX7_pass_31 rfl (lv_at hl 0 rfl) ?_
      obtain ⟨r9, σ10, qr9, hF⟩ := bd_u hF
      refine bz_callV (rest := [.int v2]) (st1 := [.int r9, .int v2]) C h (As := []) (o := some (.int r9)) (τ := σ10) (c_X7_startOne (l := l) ka0 (res := (r9, σ10)) qr9) ka0 (by decide) (ci := 7) rfl (cwV 0 hts (bz_gV wd_20_0 wd_20_1 wd_20_2 wd_1_5 wd_20_3) rfl rfl rfl (by decide +kernel) ⟨Nat.le_of_ble_eq_true rfl, Nat.le_of_ble_eq_true rfl⟩) rfl hl.1 rfl (Nat.le_of_ble_eq_true rfl) ⟨Nat.zero_le _, Nat.zero_le _⟩ dX7_pass_32 rfl (fun H locs h => ?_)
      refine lv_iadd hx hb dX7_pass_35 ?_
      refine lv_topi (fun x11 ex11 => ?_)
      have hF := lt_u hF x11 ex11
      refine lv_istore_n (lv' := [(2, .int x11), (0, .ref a0), (1, .int a1), (3, .int v3)]) hx hb dX7_pass_36 rfl hl (by decide) rfl (fun ls hl => ?_)
      refine lv_iconst (v := 0) hx hb dX7_pass_37 (by decide) ?_
      refine lv_istore (lv' := [(4, .int 0), (2, .int x11), (0, .ref a0), (1, .int a1), (3, .int v3)]) hx hb dX7_pass_38 hl (by decide) rfl (fun ls hl => ?_)
      refine L_X7_pass_L40 C hlocks hr ka0 _ _ _ H locs ls hF h (lv_sub hl [2, 3, 1, 4, 0] rfl) ?_
      intro σ17 H locs ls hF h hl
      refine lv_aload_n hx hb dX7_pass_63 rfl (lv_at hl 0 rfl) ?_
      refine gf_7_0 C h ka0 iz_X7 (List.mem_cons_of_mem _ wd_4_13) dX7_pass_64 (fun k18 => ?_)
      refine lv_iconst (v := 1) hx hb dX7_pass_67 (by decide) ?_
      refine lv_dup2_11 hx hb dX7_pass_68 rfl rfl ?_
      refine bz_iald C h k18 (by decide) (kx := 1) (bz_cl 1 (by decide)) dX7_pass_69 ?_
      refine lv_iconst (v := 1) hx hb dX7_pass_70 (by decide) ?_
      refine lv_iadd hx hb dX7_pass_71 ?_
      refine bz_iast C h k18 (by decide) (kx := 1) (bz_cl 1 (by decide)) dX7_pass_72 (fun H locs h => ?_)
      obtain ⟨σ19, eσ19⟩ : ∃ y : bz_W, y = bz_wi σ17 (σ17.2 a0 0) 1 ((σ17.1 (σ17.2 a0 0) 1) + 1) := ⟨_, rfl⟩
      rw [← eσ19] at h
      have hF := lt_u hF σ19 eσ19
      obtain ⟨x20, ex20⟩ : ∃ y : Int32, y = v3 + 1 := ⟨_, rfl⟩
      have hF := lt_u hF x20 ex20
      refine lv_iinc (v := x20) (lv' := [(3, .int x20), (0, .ref a0), (1, .int a1), (2, .int x11)]) hx hb dX7_pass_73 hl (k := 3) rfl (by rw [ex20]; rfl) (by decide) rfl (fun ls hl => ?_)
      refine lv_goto (tgt := 21) hx hb dX7_pass_76 (by decide) ?_
      exact ih _ _ _ H locs ls hF h (lv_sub hl [1, 2, 3, 0] rfl) hk
