set_option maxHeartbeats 4000000 in
set_option maxRecDepth 100000 in
theorem c_X0_copyFrom {l : Launch} {G : bz_G} {σ : bz_W} {a0 : Nat} {a1 : Nat} (ka0 : bz_k G a0 = (1, 0)) (ka1 : bz_k G a1 = (1, 0)) {res : Int32 × bz_W} (hF : f_X0_copyFrom σ a0 a1 = some res) : bz_M l yX0_copyFrom wz_X0_copyFrom 1 40 G σ [.ref a0, .ref a1] none res.2 := by
  refine bz_mk (cc := cX0_copyFrom) (maxL := 2) (ret := none) (own := RX0) (by decide) rfl rfl (Nat.le_of_ble_eq_true rfl) ?_
  intro p e s m args below meth c ls C hlocks hr h hl
  have hx := C.1
  have hb := C.2.1
  have hts := C.2.2.2.2.1
  have hl : lv_has ls 2 [(0, .ref a0), (1, .ref a1)] := hl
  obtain ⟨H, eH⟩ : ∃ y, y = s.heap := ⟨_, rfl⟩
  obtain ⟨locs, el⟩ : ∃ y : List Loc, y = [] := ⟨_, rfl⟩
  rw [← el, ← eH] at h ⊢
  unfold f_X0_copyFrom at hF
  refine lv_aload_n hx hb dX0_copyFrom_0 rfl (lv_at hl 1 rfl) ?_
  refine gf_0_0 C h ka1 iz_X0 (List.mem_cons_of_mem _ wd_3_13) dX0_copyFrom_1 (fun k1 => ?_)
  refine lv_iconst (v := 0) hx hb dX0_copyFrom_4 (by decide) ?_
  refine lv_aload_n hx hb dX0_copyFrom_5 rfl (lv_at hl 0 rfl) ?_
  refine gf_0_0 C h ka0 iz_X0 (List.mem_cons_of_mem _ wd_3_13) dX0_copyFrom_6 (fun k2 => ?_)
  refine lv_iconst (v := 0) hx hb dX0_copyFrom_9 (by decide) ?_
  refine lv_bipush (v := 10) hx hb dX0_copyFrom_10 (by decide) ?_
  refine bz_copy C h k1 k2 hl.1 (List.mem_cons_of_mem _ wd_6_8) (List.mem_cons_of_mem _ wd_5_18) (List.mem_cons_of_mem _ wd_5_19) (List.mem_cons_of_mem _ wd_5_20) (by decide) (by decide) (by decide) (Nat.le_of_ble_eq_true rfl) dX0_copyFrom_12 (fun H locs h => ?_)
  obtain ⟨σ3, eσ3⟩ : ∃ y : bz_W, y = bz_wb σ (σ.2 a0 0) (va_cpy (σ.1 (σ.2 a1 0)) (σ.1 (σ.2 a0 0)) 0 0 10) := ⟨_, rfl⟩
  rw [← eσ3] at h
  have hF := lt_u hF σ3 eσ3
  refine lv_aload_n hx hb dX0_copyFrom_15 rfl (lv_at hl 1 rfl) ?_
  refine gf_0_1 C h ka1 iz_X0 (List.mem_cons_of_mem _ wd_3_14) dX0_copyFrom_16 (fun k4 => ?_)
  refine lv_iconst (v := 0) hx hb dX0_copyFrom_19 (by decide) ?_
  refine lv_aload_n hx hb dX0_copyFrom_20 rfl (lv_at hl 0 rfl) ?_
  refine gf_0_1 C h ka0 iz_X0 (List.mem_cons_of_mem _ wd_3_14) dX0_copyFrom_21 (fun k5 => ?_)
  refine lv_iconst (v := 0) hx hb dX0_copyFrom_24 (by decide) ?_
  refine lv_bipush (v := 10) hx hb dX0_copyFrom_25 (by decide) ?_
  refine bz_copy C h k4 k5 hl.1 (List.mem_cons_of_mem _ wd_6_8) (List.mem_cons_of_mem _ wd_5_18) (List.mem_cons_of_mem _ wd_5_19) (List.mem_cons_of_mem _ wd_5_20) (by decide) (by decide) (by decide) (Nat.le_of_ble_eq_true rfl) dX0_copyFrom_27 (fun H locs h => ?_)
  obtain ⟨σ6, eσ6⟩ : ∃ y : bz_W, y = bz_wb σ3 (σ3.2 a0 1) (va_cpy (σ3.1 (σ3.2 a1 1)) (σ3.1 (σ3.2 a0 1)) 0 0 10) := ⟨_, rfl⟩
  rw [← eσ6] at h
  have hF := lt_u hF σ6 eσ6
  refine lv_aload_n hx hb dX0_copyFrom_30 rfl (lv_at hl 1 rfl) ?_
  refine gf_0_2 C h ka1 iz_X0 (List.mem_cons_of_mem _ wd_3_15) dX0_copyFrom_31 (fun k7 => ?_)
  refine lv_iconst (v := 0) hx hb dX0_copyFrom_34 (by decide) ?_
  refine lv_aload_n hx hb dX0_copyFrom_35 rfl (lv_at hl 0 rfl) ?_
  refine gf_0_2 C h ka0 iz_X0 (List.mem_cons_of_mem _ wd_3_15) dX0_copyFrom_36 (fun k8 => ?_)
  refine lv_iconst (v := 0) hx hb dX0_copyFrom_39 (by decide) ?_
  refine lv_bipush (v := 10) hx hb dX0_copyFrom_40 (by decide) ?_
  refine bz_copy C h k7 k8 hl.1 (List.mem_cons_of_mem _ wd_6_8) (List.mem_cons_of_mem _ wd_5_18) (List.mem_cons_of_mem _ wd_5_19) (List.mem_cons_of_mem _ wd_5_20) (by decide) (by decide) (by decide) (Nat.le_of_ble_eq_true rfl) dX0_copyFrom_42 (fun H locs h => ?_)
  obtain ⟨σ9, eσ9⟩ : ∃ y : bz_W, y = bz_wb σ6 (σ6.2 a0 2) (va_cpy (σ6.1 (σ6.2 a1 2)) (σ6.1 (σ6.2 a0 2)) 0 0 10) := ⟨_, rfl⟩
  rw [← eσ9] at h
  have hF := lt_u hF σ9 eσ9
  refine lv_aload_n hx hb dX0_copyFrom_45 rfl (lv_at hl 0 rfl) ?_
  refine lv_aload_n hx hb dX0_copyFrom_46 rfl (lv_at hl 1 rfl) ?_
  refine gf_0_3 C h ka1 iz_X0 (List.mem_cons_of_mem _ wd_6_9) dX0_copyFrom_47 ?_
  refine pf_0_3 C h ka0 iz_X0 (List.mem_cons_of_mem _ wd_6_9) dX0_copyFrom_50 (fun H locs h => ?_)
  obtain ⟨σ10, eσ10⟩ : ∃ y : bz_W, y = bz_wi σ9 a0 3 (σ9.1 a1 3) := ⟨_, rfl⟩
  rw [← eσ10] at h
  have hF := lt_u hF σ10 eσ10
  exact bz_vret C h hlocks hr hF dX0_copyFrom_53
set_option maxHeartbeats 4000000 in
set_option maxRecDepth 100000 in
theorem c_X0_add {l : Launch} {G : bz_G} {σ : bz_W} {a0 : Nat} {x1_ : Int32} {x2_ : Int32} {x3_ : Int32} (ka0 : bz_k G a0 = (1, 0)) {res : Int32 × bz_W} (hF : f_X0_add σ a0 x1_ x2_ x3_ = some res) : bz_M l yX0_add wz_X0_add 1 22 G σ [.ref a0, .int x1_, .int x2_, .int x3_] none res.2 := by
  refine bz_mk (cc := cX0_add) (maxL := 5) (ret := none) (own := RX0) (by decide) rfl rfl (Nat.le_of_ble_eq_true rfl) ?_
  intro p e s m args below meth c ls C hlocks hr h hl
  have hx := C.1
  have hb := C.2.1
  have hts := C.2.2.2.2.1
  have hl : lv_has ls 5 [(0, .ref a0), (1, .int x1_), (2, .int x2_), (3, .int x3_)] := hl
  obtain ⟨H, eH⟩ : ∃ y, y = s.heap := ⟨_, rfl⟩
  obtain ⟨locs, el⟩ : ∃ y : List Loc, y = [] := ⟨_, rfl⟩
  rw [← el, ← eH] at h ⊢
  unfold f_X0_add at hF
  refine lv_aload_n hx hb dX0_add_0 rfl (lv_at hl 0 rfl) ?_
  refine gf_0_3 C h ka0 iz_X0 (List.mem_cons_of_mem _ wd_6_9) dX0_add_1 ?_
  refine lv_bipush (v := 10) hx hb dX0_add_4 (by decide) ?_
  refine bz_callS (rest := []) (st1 := [.int (fm_ (σ.1 a0 3) 10)]) C h (As := [.int (σ.1 a0 3), .int 10]) (o := some (.int (fm_ (σ.1 a0 3) 10))) (τ := σ) (c_J9_floorMod_7cf53 (l := l) (by decide)) (va_cwS 2 hts (bz_gS wd_10_4 wd_10_5 wd_10_6 wd_10_7) rfl rfl rfl (by decide +kernel) ⟨Nat.le_of_ble_eq_true rfl, Nat.le_of_ble_eq_true rfl⟩) rfl hl.1 rfl (Nat.le_of_ble_eq_true rfl) ⟨Nat.le_of_ble_eq_true rfl, Nat.le_of_ble_eq_true rfl⟩ dX0_add_6 rfl (fun H locs h => ?_)
  refine lv_topi (fun x1 ex1 => ?_)
  have hF := lt_u hF x1 ex1
  refine lv_istore (lv' := [(4, .int x1), (0, .ref a0), (1, .int x1_), (2, .int x2_), (3, .int x3_)]) hx hb dX0_add_9 hl (by decide) rfl (fun ls hl => ?_)
  refine lv_aload_n hx hb dX0_add_11 rfl (lv_at hl 1 rfl) ?_
  refine gf_0_0 C h ka0 iz_X0 (List.mem_cons_of_mem _ wd_3_13) dX0_add_12 (fun k2 => ?_)
  refine lv_iload hx hb dX0_add_15 (lv_at hl 0 rfl) ?_
  refine lv_iload_n hx hb dX0_add_17 rfl (lv_at hl 2 rfl) ?_
  obtain ⟨c3, hF⟩ := ck_u hF
  refine bz_iast C h k2 c3 (kx := x1.toNatClampNeg) rfl dX0_add_18 (fun H locs h => ?_)
  obtain ⟨σ4, eσ4⟩ : ∃ y : bz_W, y = bz_wi σ (σ.2 a0 0) x1.toNatClampNeg x1_ := ⟨_, rfl⟩
  rw [← eσ4] at h
  have hF := lt_u hF σ4 eσ4
  refine lv_aload_n hx hb dX0_add_19 rfl (lv_at hl 1 rfl) ?_
  refine gf_0_1 C h ka0 iz_X0 (List.mem_cons_of_mem _ wd_3_14) dX0_add_20 (fun k5 => ?_)
  refine lv_iload hx hb dX0_add_23 (lv_at hl 0 rfl) ?_
  refine lv_iload_n hx hb dX0_add_25 rfl (lv_at hl 3 rfl) ?_
  obtain ⟨c6, hF⟩ := ck_u hF
  refine bz_iast C h k5 c6 (kx := x1.toNatClampNeg) rfl dX0_add_26 (fun H locs h => ?_)
  obtain ⟨σ7, eσ7⟩ : ∃ y : bz_W, y = bz_wi σ4 (σ4.2 a0 1) x1.toNatClampNeg x2_ := ⟨_, rfl⟩
  rw [← eσ7] at h
  have hF := lt_u hF σ7 eσ7
  refine lv_aload_n hx hb dX0_add_27 rfl (lv_at hl 1 rfl) ?_
  refine gf_0_2 C h ka0 iz_X0 (List.mem_cons_of_mem _ wd_3_15) dX0_add_28 (fun k8 => ?_)
  refine lv_iload hx hb dX0_add_31 (lv_at hl 0 rfl) ?_
  refine lv_iload_n hx hb dX0_add_33 rfl (lv_at hl 4 rfl) ?_
  obtain ⟨c9, hF⟩ := ck_u hF
  refine bz_iast C h k8 c9 (kx := x1.toNatClampNeg) rfl dX0_add_34 (fun H locs h => ?_)
  obtain ⟨σ10, eσ10⟩ : ∃ y : bz_W, y = bz_wi σ7 (σ7.2 a0 2) x1.toNatClampNeg x3_ := ⟨_, rfl⟩
  rw [← eσ10] at h
  have hF := lt_u hF σ10 eσ10
  refine lv_aload_n hx hb dX0_add_35 rfl (lv_at hl 1 rfl) ?_
  refine lv_dup hx hb dX0_add_36 rfl ?_
  refine gf_0_3 C h ka0 iz_X0 (List.mem_cons_of_mem _ wd_6_9) dX0_add_37 ?_
  refine lv_iconst (v := 1) hx hb dX0_add_40 (by decide) ?_
  refine lv_iadd hx hb dX0_add_41 ?_
  refine pf_0_3 C h ka0 iz_X0 (List.mem_cons_of_mem _ wd_6_9) dX0_add_42 (fun H locs h => ?_)
  obtain ⟨σ11, eσ11⟩ : ∃ y : bz_W, y = bz_wi σ10 a0 3 ((σ10.1 a0 3) + 1) := ⟨_, rfl⟩
  rw [← eσ11] at h
  have hF := lt_u hF σ11 eσ11
  exact bz_vret C h hlocks hr hF dX0_add_45
set_option maxHeartbeats 4000000 in
set_option maxRecDepth 100000 in
theorem c_X0_tell {l : Launch} {G : bz_G} {σ : bz_W} {a0 : Nat} {x1_ : Int32} {x2_ : Int32} (ka0 : bz_k G a0 = (1, 0)) {res : Int32 × bz_W} (hF : f_X0_tell σ a0 x1_ x2_ = some res) : bz_M l yX0_tell wz_X0_tell 1 24 G σ [.ref a0, .int x1_, .int x2_] (some (.int res.1)) res.2 := by
  refine bz_mk (cc := cX0_tell) (maxL := 4) (ret := (some .int)) (own := RX0) (by decide) rfl rfl (Nat.le_of_ble_eq_true rfl) ?_
  intro p e s m args below meth c ls C hlocks hr h hl
  have hx := C.1
  have hb := C.2.1
  have hts := C.2.2.2.2.1
  have hl : lv_has ls 4 [(0, .ref a0), (1, .int x1_), (2, .int x2_)] := hl
  obtain ⟨H, eH⟩ : ∃ y, y = s.heap := ⟨_, rfl⟩
  obtain ⟨locs, el⟩ : ∃ y : List Loc, y = [] := ⟨_, rfl⟩
  rw [← el, ← eH] at h ⊢
  unfold f_X0_tell at hF
  refine lv_iload_n hx hb dX0_tell_0 rfl (lv_at hl 1 rfl) ?_
  refine lv_if_lt (tgt := 17) hx hb dX0_tell_1 (by decide) (fun c1 => ?_) (fun c1 => ?_)
  · have hF := it_t hF c1
    refine lv_bipush (v := (-4)) hx hb dX0_tell_17 (by decide) ?_
    exact bz_iret C h hlocks hr hF dX0_tell_19
  · have hF := it_f hF c1
    refine lv_iload_n hx hb dX0_tell_4 rfl (lv_at hl 1 rfl) ?_
    refine lv_aload_n hx hb dX0_tell_5 rfl (lv_at hl 0 rfl) ?_
    refine gf_0_3 C h ka0 iz_X0 (List.mem_cons_of_mem _ wd_6_9) dX0_tell_6 ?_
    refine lv_bipush (v := 10) hx hb dX0_tell_9 (by decide) ?_
    refine va_mmin hx hb (C.2.2.1.trans hl.1.symm) C.2.2.2.1 (hts _ (List.mem_cons_of_mem _ wd_11_5)) (hts _ (List.mem_cons_of_mem _ wd_11_6)) (hts _ (List.mem_cons_of_mem _ wd_11_7)) (hts _ (List.mem_cons_of_mem _ wd_11_8)) (by decide) (Nat.le_of_ble_eq_true rfl) (Nat.zero_le _) (Nat.zero_le _) dX0_tell_11 ?_
    refine lv_icmp_lt (tgt := 20) hx hb dX0_tell_14 (by decide) (fun c2 => ?_) (fun c2 => ?_)
    · have hF := it_t hF c2
      refine lv_aload_n hx hb dX0_tell_20 rfl (lv_at hl 0 rfl) ?_
      refine gf_0_3 C h ka0 iz_X0 (List.mem_cons_of_mem _ wd_6_9) dX0_tell_21 ?_
      refine lv_iconst (v := 1) hx hb dX0_tell_24 (by decide) ?_
      refine lv_isub hx hb dX0_tell_25 ?_
      refine lv_iload_n hx hb dX0_tell_26 rfl (lv_at hl 1 rfl) ?_
      refine lv_isub hx hb dX0_tell_27 ?_
      refine lv_bipush (v := 10) hx hb dX0_tell_28 (by decide) ?_
      refine bz_callS (rest := []) (st1 := [.int (fm_ (((σ.1 a0 3) - 1) - x1_) 10)]) C h (As := [.int (((σ.1 a0 3) - 1) - x1_), .int 10]) (o := some (.int (fm_ (((σ.1 a0 3) - 1) - x1_) 10))) (τ := σ) (c_J9_floorMod_7cf53 (l := l) (by decide)) (va_cwS 2 hts (bz_gS wd_10_4 wd_10_5 wd_10_6 wd_10_7) rfl rfl rfl (by decide +kernel) ⟨Nat.le_of_ble_eq_true rfl, Nat.le_of_ble_eq_true rfl⟩) rfl hl.1 rfl (Nat.le_of_ble_eq_true rfl) ⟨Nat.le_of_ble_eq_true rfl, Nat.le_of_ble_eq_true rfl⟩ dX0_tell_30 rfl (fun H locs h => ?_)
      refine lv_topi (fun x3 ex3 => ?_)
      have hF := lt_u hF x3 ex3
      refine lv_istore_n (lv' := [(3, .int x3), (0, .ref a0), (1, .int x1_), (2, .int x2_)]) hx hb dX0_tell_33 rfl hl (by decide) rfl (fun ls hl => ?_)
      refine lv_iload_n hx hb dX0_tell_34 rfl (lv_at hl 3 rfl) ?_
      by_cases c4 : x2_ = 0
      · have hF := it_t hF c4
        refine lv_lookup (tgt := 60) hx hb dX0_tell_35 (by decide) (by rw [c4] <;> rfl) (by decide) ?_
        refine lv_aload_n hx hb dX0_tell_60 rfl (lv_at hl 1 rfl) ?_
        refine gf_0_0 C h ka0 iz_X0 (List.mem_cons_of_mem _ wd_3_13) dX0_tell_61 (fun k5 => ?_)
        refine lv_iload_n hx hb dX0_tell_64 rfl (lv_at hl 0 rfl) ?_
        obtain ⟨c6, hF⟩ := ck_u hF
        refine bz_iald C h k5 c6 (kx := x3.toNatClampNeg) rfl dX0_tell_65 ?_
        exact bz_iret C h hlocks hr hF dX0_tell_66
      have hF := it_f hF c4
      by_cases c7 : x2_ = 1
      · have hF := it_t hF c7
        refine lv_lookup (tgt := 67) hx hb dX0_tell_35 (by decide) (by rw [c7] <;> rfl) (by decide) ?_
        refine lv_aload_n hx hb dX0_tell_67 rfl (lv_at hl 1 rfl) ?_
        refine gf_0_1 C h ka0 iz_X0 (List.mem_cons_of_mem _ wd_3_14) dX0_tell_68 (fun k8 => ?_)
        refine lv_iload_n hx hb dX0_tell_71 rfl (lv_at hl 0 rfl) ?_
        obtain ⟨c9, hF⟩ := ck_u hF
        refine bz_iald C h k8 c9 (kx := x3.toNatClampNeg) rfl dX0_tell_72 ?_
        exact bz_iret C h hlocks hr hF dX0_tell_73
      have hF := it_f hF c7
      refine lv_lookup (tgt := 74) hx hb dX0_tell_35 (by decide) (bz_look2 c4 c7) (by decide) ?_
      refine lv_aload_n hx hb dX0_tell_74 rfl (lv_at hl 1 rfl) ?_
      refine gf_0_2 C h ka0 iz_X0 (List.mem_cons_of_mem _ wd_3_15) dX0_tell_75 (fun k10 => ?_)
      refine lv_iload_n hx hb dX0_tell_78 rfl (lv_at hl 0 rfl) ?_
      obtain ⟨c11, hF⟩ := ck_u hF
      refine bz_iald C h k10 c11 (kx := x3.toNatClampNeg) rfl dX0_tell_79 ?_
      exact bz_iret C h hlocks hr hF dX0_tell_80
    · have hF := it_f hF c2
      refine lv_bipush (v := (-4)) hx hb dX0_tell_17 (by decide) ?_
      exact bz_iret C h hlocks hr hF dX0_tell_19
set_option maxHeartbeats 4000000 in
set_option maxRecDepth 100000 in
theorem L_X1_dropOldest_L9 {p : Program} {l : Launch} {e : Env} {s : State} {m : MethodId} {args : Array Value} {below : List Frame} {meth : Method} {c : Code} {G : bz_G} (C : bz_C p s m c args cX1_dropOldest 3 RX1 wz_X1_dropOldest G) (hlocks : meth.locks = false) (hr : meth.sig.returnType = none) {a0 : Nat} {a1 : Nat} (ka0 : bz_k G a0 = (2, 0)) (ka1 : bz_k G a1 = (4, 0)) {k : bz_W → Option (Int32 × bz_W)} {res : Int32 × bz_W} : ∀ (n : Nat) (v2 : Int32) (σ : bz_W) (H : Heap) (locs : List Loc) (ls : Array Slot), f_X1_dropOldest_L9 a0 a1 k n v2 σ = some res → bz_H G s σ H locs → lv_has ls 3 [(0, .ref a0), (1, .ref a1), (2, .int v2)] → (∀ (σ : bz_W) (H : Heap) (locs : List Loc) (ls : Array Slot), k σ = some res → bz_H G s σ H locs → lv_has ls 3 [(0, .ref a0), (1, .ref a1)] → W p l e ({ frames := 0, cells := 0, slots := 0, locals := 0 } : Room) s m args below meth c H locs 0 0 (MQ below (bz_Qc G none res.2) args s 0 0 (bz_A G)) (F0 m 34 ls [])) → W p l e ({ frames := 0, cells := 0, slots := 0, locals := 0 } : Room) s m args below meth c H locs 0 0 (MQ below (bz_Qc G none res.2) args s 0 0 (bz_A G)) (F0 m 9 ls []) := by
  have hx := C.1
  have hb := C.2.1
  have hts := C.2.2.2.2.1
  intro n
  induction n with
  | zero =>
    intro v2 σ H locs ls hF
    exact absurd hF (by simp [f_X1_dropOldest_L9])
  | succ n ih =>
    intro v2 σ H locs ls hF h hl hk
    rw [f_X1_dropOldest_L9] at hF
    refine lv_iload_n hx hb dX1_dropOldest_9 rfl (lv_at hl 2 rfl) ?_
    refine lv_iconst (v := 4) hx hb dX1_dropOldest_10 (by decide) ?_
    refine lv_icmp_ge (tgt := 34) hx hb dX1_dropOldest_11 (by decide) (fun c3 => ?_) (fun c3 => ?_)
    · have hF := it_t hF c3
      exact hk _ H locs ls hF h (lv_sub hl [0, 1] rfl)
    · have hF := it_f hF c3
      refine lv_aload_n hx hb dX1_dropOldest_14 rfl (lv_at hl 0 rfl) ?_
      refine gf_1_0 C h ka0 iz_X1 (List.mem_cons_of_mem _ wd_3_21) dX1_dropOldest_15 (fun k4 => ?_)
      refine lv_iload_n hx hb dX1_dropOldest_18 rfl (lv_at hl 2 rfl) ?_
      refine lv_iconst (v := 1) hx hb dX1_dropOldest_19 (by decide) ?_
      refine lv_isub hx hb dX1_dropOldest_20 ?_
      refine lv_aload_n hx hb dX1_dropOldest_21 rfl (lv_at hl 0 rfl) ?_
      refine gf_1_0 C h ka0 iz_X1 (List.mem_cons_of_mem _ wd_3_21) dX1_dropOldest_22 (fun k5 => ?_)
      refine lv_iload_n hx hb dX1_dropOldest_25 rfl (lv_at hl 2 rfl) ?_
      obtain ⟨c6, hF⟩ := ck_u hF
      refine bz_aalds C h k5 c6 (kx := v2.toNatClampNeg) rfl dX1_dropOldest_26 (fun k7 => ?_)
      obtain ⟨c8, hF⟩ := ck_u hF
      refine bz_aasts C h k4 k7 c8 (kx := ((v2 - 1) : Int32).toNatClampNeg) rfl dX1_dropOldest_27 (fun H locs h => ?_)
      obtain ⟨σ9, eσ9⟩ : ∃ y : bz_W, y = bz_wr σ (σ.2 a0 0) ((v2 - 1) : Int32).toNatClampNeg (σ.2 (σ.2 a0 0) v2.toNatClampNeg) := ⟨_, rfl⟩
      rw [← eσ9] at h
      have hF := lt_u hF σ9 eσ9
      obtain ⟨x10, ex10⟩ : ∃ y : Int32, y = v2 + 1 := ⟨_, rfl⟩
      have hF := lt_u hF x10 ex10
      refine lv_iinc (v := x10) (lv' := [(2, .int x10), (0, .ref a0), (1, .ref a1)]) hx hb dX1_dropOldest_28 hl (k := 2) rfl (by rw [ex10]; rfl) (by decide) rfl (fun ls hl => ?_)
      refine lv_goto (tgt := 9) hx hb dX1_dropOldest_31 (by decide) ?_
      exact ih _ _ H locs ls hF h (lv_sub hl [1, 2, 0] rfl) hk
set_option maxHeartbeats 4000000 in
set_option maxRecDepth 100000 in
theorem c_X1_dropOldest {l : Launch} {G : bz_G} {σ : bz_W} {a0 : Nat} (ka0 : bz_k G a0 = (2, 0)) {res : Int32 × bz_W} (hF : f_X1_dropOldest σ a0 = some res) : bz_M l yX1_dropOldest wz_X1_dropOldest 0 0 G σ [.ref a0] none res.2 := by
  refine bz_mk (cc := cX1_dropOldest) (maxL := 3) (ret := none) (own := RX1) (by decide) rfl rfl (Nat.le_of_ble_eq_true rfl) ?_
  intro p e s m args below meth c ls C hlocks hr h hl
  have hx := C.1
  have hb := C.2.1
  have hts := C.2.2.2.2.1
  have hl : lv_has ls 3 [(0, .ref a0)] := hl
  obtain ⟨H, eH⟩ : ∃ y, y = s.heap := ⟨_, rfl⟩
  obtain ⟨locs, el⟩ : ∃ y : List Loc, y = [] := ⟨_, rfl⟩
  rw [← el, ← eH] at h ⊢
  unfold f_X1_dropOldest at hF
  refine lv_aload_n hx hb dX1_dropOldest_0 rfl (lv_at hl 0 rfl) ?_
  refine gf_1_0 C h ka0 iz_X1 (List.mem_cons_of_mem _ wd_3_21) dX1_dropOldest_1 (fun k1 => ?_)
  refine lv_iconst (v := 0) hx hb dX1_dropOldest_4 (by decide) ?_
  refine bz_aalds C h k1 (by decide) (kx := 0) (bz_cl 0 (by decide)) dX1_dropOldest_5 (fun k2 => ?_)
  refine lv_astore_n (lv' := [(1, .ref (σ.2 (σ.2 a0 0) 0)), (0, .ref a0)]) hx hb dX1_dropOldest_6 rfl hl (by decide) rfl (fun ls hl => ?_)
  refine lv_iconst (v := 1) hx hb dX1_dropOldest_7 (by decide) ?_
  refine lv_istore_n (lv' := [(2, .int 1), (1, .ref (σ.2 (σ.2 a0 0) 0)), (0, .ref a0)]) hx hb dX1_dropOldest_8 rfl hl (by decide) rfl (fun ls hl => ?_)
  refine L_X1_dropOldest_L9 C hlocks hr ka0 k2 _ _ _ H locs ls hF h (lv_sub hl [2, 1, 0] rfl) ?_
  intro σ11 H locs ls hF h hl
  refine lv_aload_n hx hb dX1_dropOldest_34 rfl (lv_at hl 0 rfl) ?_
  refine gf_1_0 C h ka0 iz_X1 (List.mem_cons_of_mem _ wd_3_21) dX1_dropOldest_35 (fun k12 => ?_)
  refine lv_iconst (v := 3) hx hb dX1_dropOldest_38 (by decide) ?_
  refine lv_aload_n hx hb dX1_dropOldest_39 rfl (lv_at hl 1 rfl) ?_
  refine bz_aasts C h k12 k2 (by decide) (kx := 3) (bz_cl 3 (by decide)) dX1_dropOldest_40 (fun H locs h => ?_)
  obtain ⟨σ13, eσ13⟩ : ∃ y : bz_W, y = bz_wr σ11 (σ11.2 a0 0) 3 (σ.2 (σ.2 a0 0) 0) := ⟨_, rfl⟩
  rw [← eσ13] at h
  have hF := lt_u hF σ13 eσ13
  refine lv_aload_n hx hb dX1_dropOldest_41 rfl (lv_at hl 0 rfl) ?_
  refine lv_iconst (v := 3) hx hb dX1_dropOldest_42 (by decide) ?_
  refine pf_1_1 C h ka0 iz_X1 (List.mem_cons_of_mem _ wd_4_15) dX1_dropOldest_43 (fun H locs h => ?_)
  obtain ⟨σ14, eσ14⟩ : ∃ y : bz_W, y = bz_wi σ13 a0 1 3 := ⟨_, rfl⟩
  rw [← eσ14] at h
  have hF := lt_u hF σ14 eσ14
  exact bz_vret C h hlocks hr hF dX1_dropOldest_46
set_option maxHeartbeats 4000000 in
set_option maxRecDepth 100000 in
theorem c_X2_copyFrom {l : Launch} {G : bz_G} {σ : bz_W} {a0 : Nat} {a1 : Nat} (ka0 : bz_k G a0 = (3, 0)) (ka1 : bz_k G a1 = (3, 0)) {res : Int32 × bz_W} (hF : f_X2_copyFrom σ a0 a1 = some res) : bz_M l yX2_copyFrom wz_X2_copyFrom 1 40 G σ [.ref a0, .ref a1] none res.2 := by
  refine bz_mk (cc := cX2_copyFrom) (maxL := 2) (ret := none) (own := RX2) (by decide) rfl rfl (Nat.le_of_ble_eq_true rfl) ?_
  intro p e s m args below meth c ls C hlocks hr h hl
  have hx := C.1
  have hb := C.2.1
  have hts := C.2.2.2.2.1
  have hl : lv_has ls 2 [(0, .ref a0), (1, .ref a1)] := hl
  obtain ⟨H, eH⟩ : ∃ y, y = s.heap := ⟨_, rfl⟩
  obtain ⟨locs, el⟩ : ∃ y : List Loc, y = [] := ⟨_, rfl⟩
  rw [← el, ← eH] at h ⊢
  unfold f_X2_copyFrom at hF
  refine lv_aload_n hx hb dX2_copyFrom_0 rfl (lv_at hl 0 rfl) ?_
  refine lv_aload_n hx hb dX2_copyFrom_1 rfl (lv_at hl 1 rfl) ?_
  refine gf_2_2 C h ka1 iz_X2 (List.mem_cons_of_mem _ wd_5_4) dX2_copyFrom_2 ?_
  refine pf_2_2 C h ka0 iz_X2 (List.mem_cons_of_mem _ wd_5_4) dX2_copyFrom_5 (fun H locs h => ?_)
  obtain ⟨σ1, eσ1⟩ : ∃ y : bz_W, y = bz_wi σ a0 2 (σ.1 a1 2) := ⟨_, rfl⟩
  rw [← eσ1] at h
  have hF := lt_u hF σ1 eσ1
  refine lv_aload_n hx hb dX2_copyFrom_8 rfl (lv_at hl 0 rfl) ?_
  refine lv_aload_n hx hb dX2_copyFrom_9 rfl (lv_at hl 1 rfl) ?_
  refine gf_2_3 C h ka1 iz_X2 (List.mem_cons_of_mem _ wd_5_5) dX2_copyFrom_10 ?_
  refine pf_2_3 C h ka0 iz_X2 (List.mem_cons_of_mem _ wd_5_5) dX2_copyFrom_13 (fun H locs h => ?_)
  obtain ⟨σ2, eσ2⟩ : ∃ y : bz_W, y = bz_wi σ1 a0 3 (σ1.1 a1 3) := ⟨_, rfl⟩
  rw [← eσ2] at h
  have hF := lt_u hF σ2 eσ2
  refine lv_aload_n hx hb dX2_copyFrom_16 rfl (lv_at hl 0 rfl) ?_
  refine lv_aload_n hx hb dX2_copyFrom_17 rfl (lv_at hl 1 rfl) ?_
  refine gf_2_4 C h ka1 iz_X2 (List.mem_cons_of_mem _ wd_5_6) dX2_copyFrom_18 ?_
  refine pf_2_4 C h ka0 iz_X2 (List.mem_cons_of_mem _ wd_5_6) dX2_copyFrom_21 (fun H locs h => ?_)
  obtain ⟨σ3, eσ3⟩ : ∃ y : bz_W, y = bz_wi σ2 a0 4 (σ2.1 a1 4) := ⟨_, rfl⟩
  rw [← eσ3] at h
  have hF := lt_u hF σ3 eσ3
  refine lv_aload_n hx hb dX2_copyFrom_24 rfl (lv_at hl 0 rfl) ?_
  refine lv_aload_n hx hb dX2_copyFrom_25 rfl (lv_at hl 1 rfl) ?_
  refine gf_2_5 C h ka1 iz_X2 (List.mem_cons_of_mem _ wd_5_7) dX2_copyFrom_26 ?_
  refine pf_2_5 C h ka0 iz_X2 (List.mem_cons_of_mem _ wd_5_7) dX2_copyFrom_29 (fun H locs h => ?_)
  obtain ⟨σ4, eσ4⟩ : ∃ y : bz_W, y = bz_wi σ3 a0 5 (σ3.1 a1 5) := ⟨_, rfl⟩
  rw [← eσ4] at h
  have hF := lt_u hF σ4 eσ4
  refine lv_aload_n hx hb dX2_copyFrom_32 rfl (lv_at hl 0 rfl) ?_
  refine lv_aload_n hx hb dX2_copyFrom_33 rfl (lv_at hl 1 rfl) ?_
  refine gf_2_6 C h ka1 iz_X2 (List.mem_cons_of_mem _ wd_5_8) dX2_copyFrom_34 ?_
  refine pf_2_6 C h ka0 iz_X2 (List.mem_cons_of_mem _ wd_5_8) dX2_copyFrom_37 (fun H locs h => ?_)
  obtain ⟨σ5, eσ5⟩ : ∃ y : bz_W, y = bz_wi σ4 a0 6 (σ4.1 a1 6) := ⟨_, rfl⟩
  rw [← eσ5] at h
  have hF := lt_u hF σ5 eσ5
  refine lv_aload_n hx hb dX2_copyFrom_40 rfl (lv_at hl 0 rfl) ?_
  refine lv_aload_n hx hb dX2_copyFrom_41 rfl (lv_at hl 1 rfl) ?_
  refine gf_2_7 C h ka1 iz_X2 (List.mem_cons_of_mem _ wd_5_9) dX2_copyFrom_42 ?_
  refine pf_2_7 C h ka0 iz_X2 (List.mem_cons_of_mem _ wd_5_9) dX2_copyFrom_45 (fun H locs h => ?_)
  obtain ⟨σ6, eσ6⟩ : ∃ y : bz_W, y = bz_wi σ5 a0 7 (σ5.1 a1 7) := ⟨_, rfl⟩
  rw [← eσ6] at h
  have hF := lt_u hF σ6 eσ6
  refine lv_aload_n hx hb dX2_copyFrom_48 rfl (lv_at hl 0 rfl) ?_
  refine lv_aload_n hx hb dX2_copyFrom_49 rfl (lv_at hl 1 rfl) ?_
  refine gf_2_8 C h ka1 iz_X2 (List.mem_cons_of_mem _ wd_5_10) dX2_copyFrom_50 ?_
  refine pf_2_8 C h ka0 iz_X2 (List.mem_cons_of_mem _ wd_5_10) dX2_copyFrom_53 (fun H locs h => ?_)
  obtain ⟨σ7, eσ7⟩ : ∃ y : bz_W, y = bz_wi σ6 a0 8 (σ6.1 a1 8) := ⟨_, rfl⟩
  rw [← eσ7] at h
  have hF := lt_u hF σ7 eσ7
  refine lv_aload_n hx hb dX2_copyFrom_56 rfl (lv_at hl 0 rfl) ?_
  refine lv_aload_n hx hb dX2_copyFrom_57 rfl (lv_at hl 1 rfl) ?_
  refine gf_2_9 C h ka1 iz_X2 (List.mem_cons_of_mem _ wd_5_11) dX2_copyFrom_58 ?_
  refine pf_2_9 C h ka0 iz_X2 (List.mem_cons_of_mem _ wd_5_11) dX2_copyFrom_61 (fun H locs h => ?_)
  obtain ⟨σ8, eσ8⟩ : ∃ y : bz_W, y = bz_wi σ7 a0 9 (σ7.1 a1 9) := ⟨_, rfl⟩
  rw [← eσ8] at h
  have hF := lt_u hF σ8 eσ8
  refine lv_aload_n hx hb dX2_copyFrom_64 rfl (lv_at hl 0 rfl) ?_
  refine lv_aload_n hx hb dX2_copyFrom_65 rfl (lv_at hl 1 rfl) ?_
  refine gf_2_10 C h ka1 iz_X2 (List.mem_cons_of_mem _ wd_5_12) dX2_copyFrom_66 ?_
  refine pf_2_10 C h ka0 iz_X2 (List.mem_cons_of_mem _ wd_5_12) dX2_copyFrom_69 (fun H locs h => ?_)
  obtain ⟨σ9, eσ9⟩ : ∃ y : bz_W, y = bz_wi σ8 a0 10 (σ8.1 a1 10) := ⟨_, rfl⟩
  rw [← eσ9] at h
  have hF := lt_u hF σ9 eσ9
  refine lv_aload_n hx hb dX2_copyFrom_72 rfl (lv_at hl 0 rfl) ?_
  refine lv_aload_n hx hb dX2_copyFrom_73 rfl (lv_at hl 1 rfl) ?_
  refine gf_2_11 C h ka1 iz_X2 (List.mem_cons_of_mem _ wd_5_13) dX2_copyFrom_74 ?_
  refine pf_2_11 C h ka0 iz_X2 (List.mem_cons_of_mem _ wd_5_13) dX2_copyFrom_77 (fun H locs h => ?_)
  obtain ⟨σ10, eσ10⟩ : ∃ y : bz_W, y = bz_wi σ9 a0 11 (σ9.1 a1 11) := ⟨_, rfl⟩
  rw [← eσ10] at h
  have hF := lt_u hF σ10 eσ10
  refine lv_aload_n hx hb dX2_copyFrom_80 rfl (lv_at hl 0 rfl) ?_
  refine lv_aload_n hx hb dX2_copyFrom_81 rfl (lv_at hl 1 rfl) ?_
  refine gf_2_12 C h ka1 iz_X2 (List.mem_cons_of_mem _ wd_5_14) dX2_copyFrom_82 ?_
  refine pf_2_12 C h ka0 iz_X2 (List.mem_cons_of_mem _ wd_5_14) dX2_copyFrom_85 (fun H locs h => ?_)
  obtain ⟨σ11, eσ11⟩ : ∃ y : bz_W, y = bz_wi σ10 a0 12 (σ10.1 a1 12) := ⟨_, rfl⟩
  rw [← eσ11] at h
  have hF := lt_u hF σ11 eσ11
  refine lv_aload_n hx hb dX2_copyFrom_88 rfl (lv_at hl 0 rfl) ?_
  refine lv_aload_n hx hb dX2_copyFrom_89 rfl (lv_at hl 1 rfl) ?_
  refine gf_2_13 C h ka1 iz_X2 (List.mem_cons_of_mem _ wd_5_15) dX2_copyFrom_90 ?_
  refine pf_2_13 C h ka0 iz_X2 (List.mem_cons_of_mem _ wd_5_15) dX2_copyFrom_93 (fun H locs h => ?_)
  obtain ⟨σ12, eσ12⟩ : ∃ y : bz_W, y = bz_wi σ11 a0 13 (σ11.1 a1 13) := ⟨_, rfl⟩
  rw [← eσ12] at h
  have hF := lt_u hF σ12 eσ12
  refine lv_aload_n hx hb dX2_copyFrom_96 rfl (lv_at hl 0 rfl) ?_
  refine lv_aload_n hx hb dX2_copyFrom_97 rfl (lv_at hl 1 rfl) ?_
  refine gf_2_14 C h ka1 iz_X2 (List.mem_cons_of_mem _ wd_5_16) dX2_copyFrom_98 ?_
  refine pf_2_14 C h ka0 iz_X2 (List.mem_cons_of_mem _ wd_5_16) dX2_copyFrom_101 (fun H locs h => ?_)
  obtain ⟨σ13, eσ13⟩ : ∃ y : bz_W, y = bz_wi σ12 a0 14 (σ12.1 a1 14) := ⟨_, rfl⟩
  rw [← eσ13] at h
  have hF := lt_u hF σ13 eσ13
  refine lv_aload_n hx hb dX2_copyFrom_104 rfl (lv_at hl 1 rfl) ?_
  refine gf_2_1 C h ka1 iz_X2 (List.mem_cons_of_mem _ wd_3_0) dX2_copyFrom_105 (fun k14 => ?_)
  refine lv_iconst (v := 0) hx hb dX2_copyFrom_108 (by decide) ?_
  refine lv_aload_n hx hb dX2_copyFrom_109 rfl (lv_at hl 0 rfl) ?_
  refine gf_2_1 C h ka0 iz_X2 (List.mem_cons_of_mem _ wd_3_0) dX2_copyFrom_110 (fun k15 => ?_)
  refine lv_iconst (v := 0) hx hb dX2_copyFrom_113 (by decide) ?_
  refine lv_bipush (v := 7) hx hb dX2_copyFrom_114 (by decide) ?_
  refine bz_copy C h k14 k15 hl.1 (List.mem_cons_of_mem _ wd_5_17) (List.mem_cons_of_mem _ wd_5_18) (List.mem_cons_of_mem _ wd_5_19) (List.mem_cons_of_mem _ wd_5_20) (by decide) (by decide) (by decide) (Nat.le_of_ble_eq_true rfl) dX2_copyFrom_116 (fun H locs h => ?_)
  obtain ⟨σ16, eσ16⟩ : ∃ y : bz_W, y = bz_wb σ13 (σ13.2 a0 1) (va_cpy (σ13.1 (σ13.2 a1 1)) (σ13.1 (σ13.2 a0 1)) 0 0 7) := ⟨_, rfl⟩
  rw [← eσ16] at h
  have hF := lt_u hF σ16 eσ16
  exact bz_vret C h hlocks hr hF dX2_copyFrom_119
set_option maxHeartbeats 4000000 in
set_option maxRecDepth 100000 in
theorem c_X4_copyFrom {l : Launch} {G : bz_G} {σ : bz_W} {a0 : Nat} {a1 : Nat} (ka0 : bz_k G a0 = (5, 0)) (ka1 : bz_k G a1 = (5, 0)) {res : Int32 × bz_W} (hF : f_X4_copyFrom σ a0 a1 = some res) : bz_M l yX4_copyFrom wz_X4_copyFrom 1 40 G σ [.ref a0, .ref a1] none res.2 := by
  refine bz_mk (cc := cX4_copyFrom) (maxL := 2) (ret := none) (own := RX4) (by decide) rfl rfl (Nat.le_of_ble_eq_true rfl) ?_
  intro p e s m args below meth c ls C hlocks hr h hl
  have hx := C.1
  have hb := C.2.1
  have hts := C.2.2.2.2.1
  have hl : lv_has ls 2 [(0, .ref a0), (1, .ref a1)] := hl
  obtain ⟨H, eH⟩ : ∃ y, y = s.heap := ⟨_, rfl⟩
  obtain ⟨locs, el⟩ : ∃ y : List Loc, y = [] := ⟨_, rfl⟩
  rw [← el, ← eH] at h ⊢
  unfold f_X4_copyFrom at hF
  refine lv_aload_n hx hb dX4_copyFrom_0 rfl (lv_at hl 1 rfl) ?_
  refine gf_4_0 C h ka1 iz_X4 (List.mem_cons_of_mem _ wd_3_5) dX4_copyFrom_1 (fun k1 => ?_)
  refine lv_iconst (v := 0) hx hb dX4_copyFrom_4 (by decide) ?_
  refine lv_aload_n hx hb dX4_copyFrom_5 rfl (lv_at hl 0 rfl) ?_
  refine gf_4_0 C h ka0 iz_X4 (List.mem_cons_of_mem _ wd_3_5) dX4_copyFrom_6 (fun k2 => ?_)
  refine lv_iconst (v := 0) hx hb dX4_copyFrom_9 (by decide) ?_
  refine lv_bipush (v := 10) hx hb dX4_copyFrom_10 (by decide) ?_
  refine bz_copy C h k1 k2 hl.1 (List.mem_cons_of_mem _ wd_6_1) (List.mem_cons_of_mem _ wd_5_18) (List.mem_cons_of_mem _ wd_5_19) (List.mem_cons_of_mem _ wd_5_20) (by decide) (by decide) (by decide) (Nat.le_of_ble_eq_true rfl) dX4_copyFrom_12 (fun H locs h => ?_)
  obtain ⟨σ3, eσ3⟩ : ∃ y : bz_W, y = bz_wb σ (σ.2 a0 0) (va_cpy (σ.1 (σ.2 a1 0)) (σ.1 (σ.2 a0 0)) 0 0 10) := ⟨_, rfl⟩
  rw [← eσ3] at h
  have hF := lt_u hF σ3 eσ3
  refine lv_aload_n hx hb dX4_copyFrom_15 rfl (lv_at hl 1 rfl) ?_
  refine gf_4_1 C h ka1 iz_X4 (List.mem_cons_of_mem _ wd_3_6) dX4_copyFrom_16 (fun k4 => ?_)
  refine lv_iconst (v := 0) hx hb dX4_copyFrom_19 (by decide) ?_
  refine lv_aload_n hx hb dX4_copyFrom_20 rfl (lv_at hl 0 rfl) ?_
  refine gf_4_1 C h ka0 iz_X4 (List.mem_cons_of_mem _ wd_3_6) dX4_copyFrom_21 (fun k5 => ?_)
  refine lv_iconst (v := 0) hx hb dX4_copyFrom_24 (by decide) ?_
  refine lv_bipush (v := 10) hx hb dX4_copyFrom_25 (by decide) ?_
  refine bz_copy C h k4 k5 hl.1 (List.mem_cons_of_mem _ wd_6_1) (List.mem_cons_of_mem _ wd_5_18) (List.mem_cons_of_mem _ wd_5_19) (List.mem_cons_of_mem _ wd_5_20) (by decide) (by decide) (by decide) (Nat.le_of_ble_eq_true rfl) dX4_copyFrom_27 (fun H locs h => ?_)
  obtain ⟨σ6, eσ6⟩ : ∃ y : bz_W, y = bz_wb σ3 (σ3.2 a0 1) (va_cpy (σ3.1 (σ3.2 a1 1)) (σ3.1 (σ3.2 a0 1)) 0 0 10) := ⟨_, rfl⟩
  rw [← eσ6] at h
  have hF := lt_u hF σ6 eσ6
  refine lv_aload_n hx hb dX4_copyFrom_30 rfl (lv_at hl 1 rfl) ?_
  refine gf_4_2 C h ka1 iz_X4 (List.mem_cons_of_mem _ wd_3_7) dX4_copyFrom_31 (fun k7 => ?_)
  refine lv_iconst (v := 0) hx hb dX4_copyFrom_34 (by decide) ?_
  refine lv_aload_n hx hb dX4_copyFrom_35 rfl (lv_at hl 0 rfl) ?_
  refine gf_4_2 C h ka0 iz_X4 (List.mem_cons_of_mem _ wd_3_7) dX4_copyFrom_36 (fun k8 => ?_)
  refine lv_iconst (v := 0) hx hb dX4_copyFrom_39 (by decide) ?_
  refine lv_bipush (v := 10) hx hb dX4_copyFrom_40 (by decide) ?_
  refine bz_copy C h k7 k8 hl.1 (List.mem_cons_of_mem _ wd_6_1) (List.mem_cons_of_mem _ wd_5_18) (List.mem_cons_of_mem _ wd_5_19) (List.mem_cons_of_mem _ wd_5_20) (by decide) (by decide) (by decide) (Nat.le_of_ble_eq_true rfl) dX4_copyFrom_42 (fun H locs h => ?_)
  obtain ⟨σ9, eσ9⟩ : ∃ y : bz_W, y = bz_wb σ6 (σ6.2 a0 2) (va_cpy (σ6.1 (σ6.2 a1 2)) (σ6.1 (σ6.2 a0 2)) 0 0 10) := ⟨_, rfl⟩
  rw [← eσ9] at h
  have hF := lt_u hF σ9 eσ9
  refine lv_aload_n hx hb dX4_copyFrom_45 rfl (lv_at hl 1 rfl) ?_
  refine gf_4_3 C h ka1 iz_X4 (List.mem_cons_of_mem _ wd_3_8) dX4_copyFrom_46 (fun k10 => ?_)
  refine lv_iconst (v := 0) hx hb dX4_copyFrom_49 (by decide) ?_
  refine lv_aload_n hx hb dX4_copyFrom_50 rfl (lv_at hl 0 rfl) ?_
  refine gf_4_3 C h ka0 iz_X4 (List.mem_cons_of_mem _ wd_3_8) dX4_copyFrom_51 (fun k11 => ?_)
  refine lv_iconst (v := 0) hx hb dX4_copyFrom_54 (by decide) ?_
  refine lv_bipush (v := 10) hx hb dX4_copyFrom_55 (by decide) ?_
  refine bz_copy C h k10 k11 hl.1 (List.mem_cons_of_mem _ wd_6_1) (List.mem_cons_of_mem _ wd_5_18) (List.mem_cons_of_mem _ wd_5_19) (List.mem_cons_of_mem _ wd_5_20) (by decide) (by decide) (by decide) (Nat.le_of_ble_eq_true rfl) dX4_copyFrom_57 (fun H locs h => ?_)
  obtain ⟨σ12, eσ12⟩ : ∃ y : bz_W, y = bz_wb σ9 (σ9.2 a0 3) (va_cpy (σ9.1 (σ9.2 a1 3)) (σ9.1 (σ9.2 a0 3)) 0 0 10) := ⟨_, rfl⟩
  rw [← eσ12] at h
  have hF := lt_u hF σ12 eσ12
  refine lv_aload_n hx hb dX4_copyFrom_60 rfl (lv_at hl 0 rfl) ?_
  refine lv_aload_n hx hb dX4_copyFrom_61 rfl (lv_at hl 1 rfl) ?_
  refine gf_4_4 C h ka1 iz_X4 (List.mem_cons_of_mem _ wd_6_2) dX4_copyFrom_62 ?_
  refine pf_4_4 C h ka0 iz_X4 (List.mem_cons_of_mem _ wd_6_2) dX4_copyFrom_65 (fun H locs h => ?_)
  obtain ⟨σ13, eσ13⟩ : ∃ y : bz_W, y = bz_wi σ12 a0 4 (σ12.1 a1 4) := ⟨_, rfl⟩
  rw [← eσ13] at h
  have hF := lt_u hF σ13 eσ13
  refine lv_aload_n hx hb dX4_copyFrom_68 rfl (lv_at hl 0 rfl) ?_
  refine lv_aload_n hx hb dX4_copyFrom_69 rfl (lv_at hl 1 rfl) ?_
  refine gf_4_5 C h ka1 iz_X4 (List.mem_cons_of_mem _ wd_6_3) dX4_copyFrom_70 ?_
  refine pf_4_5 C h ka0 iz_X4 (List.mem_cons_of_mem _ wd_6_3) dX4_copyFrom_73 (fun H locs h => ?_)
  obtain ⟨σ14, eσ14⟩ : ∃ y : bz_W, y = bz_wi σ13 a0 5 (σ13.1 a1 5) := ⟨_, rfl⟩
  rw [← eσ14] at h
  have hF := lt_u hF σ14 eσ14
  exact bz_vret C h hlocks hr hF dX4_copyFrom_76
set_option maxHeartbeats 4000000 in
set_option maxRecDepth 100000 in
theorem L_X3_copyFrom_L2 {p : Program} {l : Launch} {e : Env} {s : State} {m : MethodId} {args : Array Value} {below : List Frame} {meth : Method} {c : Code} {G : bz_G} (C : bz_C p s m c args cX3_copyFrom 3 RX3 wz_X3_copyFrom G) (hlocks : meth.locks = false) (hr : meth.sig.returnType = none) {a0 : Nat} {a1 : Nat} (ka0 : bz_k G a0 = (4, 0)) (ka1 : bz_k G a1 = (4, 0)) {k : bz_W → Option (Int32 × bz_W)} {res : Int32 × bz_W} : ∀ (n : Nat) (v2 : Int32) (σ : bz_W) (H : Heap) (locs : List Loc) (ls : Array Slot), f_X3_copyFrom_L2 a0 a1 k n v2 σ = some res → bz_H G s σ H locs → lv_has ls 3 [(0, .ref a0), (1, .ref a1), (2, .int v2)] → (∀ (σ : bz_W) (H : Heap) (locs : List Loc) (ls : Array Slot), k σ = some res → bz_H G s σ H locs → lv_has ls 3 [(0, .ref a0), (1, .ref a1)] → W p l e ({ frames := 2, cells := 0, slots := 0, locals := 61 } : Room) s m args below meth c H locs 0 0 (MQ below (bz_Qc G none res.2) args s 0 0 (bz_A G)) (F0 m 31 ls [])) → W p l e ({ frames := 2, cells := 0, slots := 0, locals := 61 } : Room) s m args below meth c H locs 0 0 (MQ below (bz_Qc G none res.2) args s 0 0 (bz_A G)) (F0 m 2 ls []) := by
  have hx := C.1
  have hb := C.2.1
  have hts := C.2.2.2.2.1
  intro n
  induction n with
  | zero =>
    intro v2 σ H locs ls hF
    exact absurd hF (by simp [f_X3_copyFrom_L2])
  | succ n ih =>
    intro v2 σ H locs ls hF h hl hk
    rw [f_X3_copyFrom_L2] at hF
    refine lv_iload_n hx hb dX3_copyFrom_2 rfl (lv_at hl 2 rfl) ?_
    refine lv_aload_n hx hb dX3_copyFrom_3 rfl (lv_at hl 1 rfl) ?_
    refine gf_3_3 C h ka1 iz_X3 (List.mem_cons_of_mem _ wd_4_20) dX3_copyFrom_4 ?_
    refine lv_icmp_ge (tgt := 31) hx hb dX3_copyFrom_7 (by decide) (fun c1 => ?_) (fun c1 => ?_)
    · have hF := it_t hF c1
      exact hk _ H locs ls hF h (lv_sub hl [0, 1] rfl)
    · have hF := it_f hF c1
      refine lv_aload_n hx hb dX3_copyFrom_10 rfl (lv_at hl 0 rfl) ?_
      refine gf_3_0 C h ka0 iz_X3 (List.mem_cons_of_mem _ wd_2_9) dX3_copyFrom_11 (fun k2 => ?_)
      refine lv_iload_n hx hb dX3_copyFrom_14 rfl (lv_at hl 2 rfl) ?_
      obtain ⟨c3, hF⟩ := ck_u hF
      refine bz_aaldm C h k2 c3 (kx := v2.toNatClampNeg) rfl dX3_copyFrom_15 (fun k4 => ?_)
      refine lv_aload_n hx hb dX3_copyFrom_16 rfl (lv_at hl 1 rfl) ?_
      refine gf_3_0 C h ka1 iz_X3 (List.mem_cons_of_mem _ wd_2_9) dX3_copyFrom_17 (fun k5 => ?_)
      refine lv_iload_n hx hb dX3_copyFrom_20 rfl (lv_at hl 2 rfl) ?_
      obtain ⟨c6, hF⟩ := ck_u hF
      refine bz_aaldm C h k5 c6 (kx := v2.toNatClampNeg) rfl dX3_copyFrom_21 (fun k7 => ?_)
      obtain ⟨r8, σ9, qr8, hF⟩ := bd_u hF
      refine bz_callV (rest := []) (st1 := []) C h (As := [.ref (σ.2 (σ.2 a1 0) v2.toNatClampNeg)]) (o := none) (τ := σ9) (c_X2_copyFrom (l := l) k4 k7 (res := (r8, σ9)) qr8) k4 (by decide) (ci := 2) rfl (cwV 1 hts (bz_gV wd_5_0 wd_5_1 wd_5_2 wd_2_11 wd_5_3) rfl rfl rfl (by decide +kernel) ⟨Nat.le_of_ble_eq_true rfl, Nat.le_of_ble_eq_true rfl⟩) rfl hl.1 rfl (by decide) ⟨Nat.le_of_ble_eq_true rfl, Nat.le_of_ble_eq_true rfl⟩ dX3_copyFrom_22 rfl (fun H locs h => ?_)
      obtain ⟨x10, ex10⟩ : ∃ y : Int32, y = v2 + 1 := ⟨_, rfl⟩
      have hF := lt_u hF x10 ex10
      refine lv_iinc (v := x10) (lv' := [(2, .int x10), (0, .ref a0), (1, .ref a1)]) hx hb dX3_copyFrom_25 hl (k := 2) rfl (by rw [ex10]; rfl) (by decide) rfl (fun ls hl => ?_)
      refine lv_goto (tgt := 2) hx hb dX3_copyFrom_28 (by decide) ?_
      exact ih _ _ H locs ls hF h (lv_sub hl [1, 2, 0] rfl) hk
set_option maxHeartbeats 4000000 in
set_option maxRecDepth 100000 in
theorem c_X3_copyFrom {l : Launch} {G : bz_G} {σ : bz_W} {a0 : Nat} {a1 : Nat} (ka0 : bz_k G a0 = (4, 0)) (ka1 : bz_k G a1 = (4, 0)) {res : Int32 × bz_W} (hF : f_X3_copyFrom σ a0 a1 = some res) : bz_M l yX3_copyFrom wz_X3_copyFrom 2 61 G σ [.ref a0, .ref a1] none res.2 := by
  refine bz_mk (cc := cX3_copyFrom) (maxL := 3) (ret := none) (own := RX3) (by decide) rfl rfl (Nat.le_of_ble_eq_true rfl) ?_
  intro p e s m args below meth c ls C hlocks hr h hl
  have hx := C.1
  have hb := C.2.1
  have hts := C.2.2.2.2.1
  have hl : lv_has ls 3 [(0, .ref a0), (1, .ref a1)] := hl
  obtain ⟨H, eH⟩ : ∃ y, y = s.heap := ⟨_, rfl⟩
  obtain ⟨locs, el⟩ : ∃ y : List Loc, y = [] := ⟨_, rfl⟩
  rw [← el, ← eH] at h ⊢
  unfold f_X3_copyFrom at hF
  refine lv_iconst (v := 0) hx hb dX3_copyFrom_0 (by decide) ?_
  refine lv_istore_n (lv' := [(2, .int 0), (0, .ref a0), (1, .ref a1)]) hx hb dX3_copyFrom_1 rfl hl (by decide) rfl (fun ls hl => ?_)
  refine L_X3_copyFrom_L2 C hlocks hr ka0 ka1 _ _ _ H locs ls hF h (lv_sub hl [1, 2, 0] rfl) ?_
  intro σ11 H locs ls hF h hl
  refine lv_aload_n hx hb dX3_copyFrom_31 rfl (lv_at hl 0 rfl) ?_
  refine gf_3_1 C h ka0 iz_X3 (List.mem_cons_of_mem _ wd_2_13) dX3_copyFrom_32 (fun k12 => ?_)
  refine lv_aload_n hx hb dX3_copyFrom_35 rfl (lv_at hl 1 rfl) ?_
  refine gf_3_1 C h ka1 iz_X3 (List.mem_cons_of_mem _ wd_2_13) dX3_copyFrom_36 (fun k13 => ?_)
  obtain ⟨r14, σ15, qr14, hF⟩ := bd_u hF
  refine bz_callV (rest := []) (st1 := []) C h (As := [.ref (σ11.2 a1 1)]) (o := none) (τ := σ15) (c_X4_copyFrom (l := l) k12 k13 (res := (r14, σ15)) qr14) k12 (by decide) (ci := 4) rfl (cwV 1 hts (bz_gV wd_5_21 wd_5_22 wd_5_23 wd_2_0 wd_6_0) rfl rfl rfl (by decide +kernel) ⟨Nat.le_of_ble_eq_true rfl, Nat.le_of_ble_eq_true rfl⟩) rfl hl.1 rfl (by decide) ⟨Nat.le_of_ble_eq_true rfl, Nat.le_of_ble_eq_true rfl⟩ dX3_copyFrom_39 rfl (fun H locs h => ?_)
  refine lv_aload_n hx hb dX3_copyFrom_42 rfl (lv_at hl 0 rfl) ?_
  refine gf_3_2 C h ka0 iz_X3 (List.mem_cons_of_mem _ wd_2_17) dX3_copyFrom_43 (fun k16 => ?_)
  refine lv_aload_n hx hb dX3_copyFrom_46 rfl (lv_at hl 1 rfl) ?_
  refine gf_3_2 C h ka1 iz_X3 (List.mem_cons_of_mem _ wd_2_17) dX3_copyFrom_47 (fun k17 => ?_)
  obtain ⟨r18, σ19, qr18, hF⟩ := bd_u hF
  refine bz_callV (rest := []) (st1 := []) C h (As := [.ref (σ15.2 a1 2)]) (o := none) (τ := σ19) (c_X0_copyFrom (l := l) k16 k17 (res := (r18, σ19)) qr18) k16 (by decide) (ci := 0) rfl (cwV 1 hts (bz_gV wd_6_4 wd_6_5 wd_6_6 wd_2_16 wd_6_7) rfl rfl rfl (by decide +kernel) ⟨Nat.le_of_ble_eq_true rfl, Nat.le_of_ble_eq_true rfl⟩) rfl hl.1 rfl (by decide) ⟨Nat.le_of_ble_eq_true rfl, Nat.le_of_ble_eq_true rfl⟩ dX3_copyFrom_50 rfl (fun H locs h => ?_)
  refine lv_aload_n hx hb dX3_copyFrom_53 rfl (lv_at hl 0 rfl) ?_
  refine lv_aload_n hx hb dX3_copyFrom_54 rfl (lv_at hl 1 rfl) ?_
  refine gf_3_3 C h ka1 iz_X3 (List.mem_cons_of_mem _ wd_4_20) dX3_copyFrom_55 ?_
  refine pf_3_3 C h ka0 iz_X3 (List.mem_cons_of_mem _ wd_4_20) dX3_copyFrom_58 (fun H locs h => ?_)
  obtain ⟨σ20, eσ20⟩ : ∃ y : bz_W, y = bz_wi σ19 a0 3 (σ19.1 a1 3) := ⟨_, rfl⟩
  rw [← eσ20] at h
  have hF := lt_u hF σ20 eσ20
  refine lv_aload_n hx hb dX3_copyFrom_61 rfl (lv_at hl 0 rfl) ?_
  refine lv_aload_n hx hb dX3_copyFrom_62 rfl (lv_at hl 1 rfl) ?_
  refine gf_3_4 C h ka1 iz_X3 (List.mem_cons_of_mem _ wd_4_21) dX3_copyFrom_63 ?_
  refine pf_3_4 C h ka0 iz_X3 (List.mem_cons_of_mem _ wd_4_21) dX3_copyFrom_66 (fun H locs h => ?_)
  obtain ⟨σ21, eσ21⟩ : ∃ y : bz_W, y = bz_wi σ20 a0 4 (σ20.1 a1 4) := ⟨_, rfl⟩
  rw [← eσ21] at h
  have hF := lt_u hF σ21 eσ21
  refine lv_aload_n hx hb dX3_copyFrom_69 rfl (lv_at hl 0 rfl) ?_
  refine lv_aload_n hx hb dX3_copyFrom_70 rfl (lv_at hl 1 rfl) ?_
  refine gf_3_5 C h ka1 iz_X3 (List.mem_cons_of_mem _ wd_2_18) dX3_copyFrom_71 ?_
  refine pf_3_5 C h ka0 iz_X3 (List.mem_cons_of_mem _ wd_2_18) dX3_copyFrom_74 (fun H locs h => ?_)
  obtain ⟨σ22, eσ22⟩ : ∃ y : bz_W, y = bz_wi σ21 a0 5 (σ21.1 a1 5) := ⟨_, rfl⟩
  rw [← eσ22] at h
  have hF := lt_u hF σ22 eσ22
  refine lv_aload_n hx hb dX3_copyFrom_77 rfl (lv_at hl 0 rfl) ?_
  refine lv_aload_n hx hb dX3_copyFrom_78 rfl (lv_at hl 1 rfl) ?_
  refine gf_3_6 C h ka1 iz_X3 (List.mem_cons_of_mem _ wd_4_22) dX3_copyFrom_79 ?_
  obtain ⟨c23, hF⟩ := ck_u hF
  refine pf_3_6 C h ka0 iz_X3 (List.mem_cons_of_mem _ wd_4_22) c23 dX3_copyFrom_82 (fun H locs h => ?_)
  obtain ⟨σ24, eσ24⟩ : ∃ y : bz_W, y = bz_wi σ22 a0 6 (σ22.1 a1 6) := ⟨_, rfl⟩
  rw [← eσ24] at h
  have hF := lt_u hF σ24 eσ24
  refine lv_aload_n hx hb dX3_copyFrom_85 rfl (lv_at hl 0 rfl) ?_
  refine lv_aload_n hx hb dX3_copyFrom_86 rfl (lv_at hl 1 rfl) ?_
  refine gf_3_7 C h ka1 iz_X3 (List.mem_cons_of_mem _ wd_4_23) dX3_copyFrom_87 ?_
  refine pf_3_7 C h ka0 iz_X3 (List.mem_cons_of_mem _ wd_4_23) dX3_copyFrom_90 (fun H locs h => ?_)
  obtain ⟨σ25, eσ25⟩ : ∃ y : bz_W, y = bz_wi σ24 a0 7 (σ24.1 a1 7) := ⟨_, rfl⟩
  rw [← eσ25] at h
  have hF := lt_u hF σ25 eσ25
  exact bz_vret C h hlocks hr hF dX3_copyFrom_93
set_option maxHeartbeats 4000000 in
set_option maxRecDepth 100000 in
theorem c_X1_record {l : Launch} {G : bz_G} {σ : bz_W} {a0 : Nat} {a1 : Nat} (ka0 : bz_k G a0 = (2, 0)) (ka1 : bz_k G a1 = (4, 0)) {res : Int32 × bz_W} (hF : f_X1_record σ a0 a1 = some res) : bz_M l yX1_record wz_X1_record 3 83 G σ [.ref a0, .ref a1] none res.2 := by
  refine bz_mk (cc := cX1_record) (maxL := 2) (ret := none) (own := RX1) (by decide) rfl rfl (Nat.le_of_ble_eq_true rfl) ?_
  intro p e s m args below meth c ls C hlocks hr h hl
  have hx := C.1
  have hb := C.2.1
  have hts := C.2.2.2.2.1
  have hl : lv_has ls 2 [(0, .ref a0), (1, .ref a1)] := hl
  obtain ⟨H, eH⟩ : ∃ y, y = s.heap := ⟨_, rfl⟩
  obtain ⟨locs, el⟩ : ∃ y : List Loc, y = [] := ⟨_, rfl⟩
  rw [← el, ← eH] at h ⊢
  unfold f_X1_record at hF
  refine lv_aload_n hx hb dX1_record_0 rfl (lv_at hl 0 rfl) ?_
  refine gf_1_1 C h ka0 iz_X1 (List.mem_cons_of_mem _ wd_4_15) dX1_record_1 ?_
  refine lv_iconst (v := 4) hx hb dX1_record_4 (by decide) ?_
  obtain ⟨j2, ej2, hF⟩ := lt_j hF
  have hj2 : ∀ (σ1 : bz_W) (H : Heap) (locs : List Loc) (ls : Array Slot), j2 σ1 = some res → bz_H G s σ1 H locs → lv_has ls 2 [(0, .ref a0), (1, .ref a1)] → W p l e ({ frames := 3, cells := 0, slots := 0, locals := 83 } : Room) s m args below meth c H locs 0 0 (MQ below (bz_Qc G none res.2) args s 0 0 (bz_A G)) (F0 m 12 ls []) := by
      intro σ1 H locs ls hF h hl
      subst ej2
      refine lv_aload_n hx hb dX1_record_12 rfl (lv_at hl 0 rfl) ?_
      refine gf_1_0 C h ka0 iz_X1 (List.mem_cons_of_mem _ wd_3_21) dX1_record_13 (fun k3 => ?_)
      refine lv_aload_n hx hb dX1_record_16 rfl (lv_at hl 0 rfl) ?_
      refine gf_1_1 C h ka0 iz_X1 (List.mem_cons_of_mem _ wd_4_15) dX1_record_17 ?_
      obtain ⟨c4, hF⟩ := ck_u hF
      refine bz_aalds C h k3 c4 (kx := ((σ1.1 a0 1) : Int32).toNatClampNeg) rfl dX1_record_20 (fun k5 => ?_)
      refine lv_aload_n hx hb dX1_record_21 rfl (lv_at hl 1 rfl) ?_
      obtain ⟨r6, σ7, qr6, hF⟩ := bd_u hF
      refine bz_callV (rest := []) (st1 := []) C h (As := [.ref a1]) (o := none) (τ := σ7) (c_X3_copyFrom (l := l) k5 ka1 (res := (r6, σ7)) qr6) k5 (by decide) (ci := 3) rfl (cwV 1 hts (bz_gV wd_4_16 wd_4_17 wd_4_18 wd_1_11 wd_4_19) rfl rfl rfl (by decide +kernel) ⟨Nat.le_of_ble_eq_true rfl, Nat.le_of_ble_eq_true rfl⟩) rfl hl.1 rfl (by decide) ⟨Nat.le_of_ble_eq_true rfl, Nat.le_of_ble_eq_true rfl⟩ dX1_record_22 rfl (fun H locs h => ?_)
      refine lv_aload_n hx hb dX1_record_25 rfl (lv_at hl 0 rfl) ?_
      refine lv_dup hx hb dX1_record_26 rfl ?_
      refine gf_1_1 C h ka0 iz_X1 (List.mem_cons_of_mem _ wd_4_15) dX1_record_27 ?_
      refine lv_iconst (v := 1) hx hb dX1_record_30 (by decide) ?_
      refine lv_iadd hx hb dX1_record_31 ?_
      refine pf_1_1 C h ka0 iz_X1 (List.mem_cons_of_mem _ wd_4_15) dX1_record_32 (fun H locs h => ?_)
      obtain ⟨σ8, eσ8⟩ : ∃ y : bz_W, y = bz_wi σ7 a0 1 ((σ7.1 a0 1) + 1) := ⟨_, rfl⟩
      rw [← eσ8] at h
      have hF := lt_u hF σ8 eσ8
      exact bz_vret C h hlocks hr hF dX1_record_35
  refine lv_icmp_lt (tgt := 12) hx hb dX1_record_5 (by decide) (fun c9 => ?_) (fun c9 => ?_)
  · have hF := it_t hF c9
    exact hj2 _ H locs ls hF h (lv_sub hl [0, 1] rfl)
  · have hF := it_f hF c9
    refine lv_aload_n hx hb dX1_record_8 rfl (lv_at hl 0 rfl) ?_
    obtain ⟨r10, σ11, qr10, hF⟩ := bd_u hF
    refine bz_callV (rest := []) (st1 := []) C h (As := []) (o := none) (τ := σ11) (c_X1_dropOldest (l := l) ka0 (res := (r10, σ11)) qr10) ka0 (by decide) (ci := 1) rfl (cwV 0 hts (bz_gV wd_6_20 wd_6_21 wd_6_22 wd_1_15 wd_6_23) rfl rfl rfl (by decide +kernel) ⟨Nat.le_of_ble_eq_true rfl, Nat.le_of_ble_eq_true rfl⟩) rfl hl.1 rfl (by decide) ⟨Nat.le_of_ble_eq_true rfl, Nat.le_of_ble_eq_true rfl⟩ dX1_record_9 rfl (fun H locs h => ?_)
    exact hj2 _ H locs ls hF h (lv_sub hl [0, 1] rfl)
set_option maxHeartbeats 4000000 in
set_option maxRecDepth 100000 in
theorem c_X1_takeBack {l : Launch} {G : bz_G} {σ : bz_W} {a0 : Nat} {a1 : Nat} (ka0 : bz_k G a0 = (2, 0)) (ka1 : bz_k G a1 = (4, 0)) {res : Int32 × bz_W} (hF : f_X1_takeBack σ a0 a1 = some res) : bz_M l yX1_takeBack wz_X1_takeBack 3 83 G σ [.ref a0, .ref a1] (some (.int res.1)) res.2 := by
  refine bz_mk (cc := cX1_takeBack) (maxL := 2) (ret := (some .boolean)) (own := RX1) (by decide) rfl rfl (Nat.le_of_ble_eq_true rfl) ?_
  intro p e s m args below meth c ls C hlocks hr h hl
  have hx := C.1
  have hb := C.2.1
  have hts := C.2.2.2.2.1
  have hl : lv_has ls 2 [(0, .ref a0), (1, .ref a1)] := hl
  obtain ⟨H, eH⟩ : ∃ y, y = s.heap := ⟨_, rfl⟩
  obtain ⟨locs, el⟩ : ∃ y : List Loc, y = [] := ⟨_, rfl⟩
  rw [← el, ← eH] at h ⊢
  unfold f_X1_takeBack at hF
  refine lv_aload_n hx hb dX1_takeBack_0 rfl (lv_at hl 0 rfl) ?_
  refine gf_1_1 C h ka0 iz_X1 (List.mem_cons_of_mem _ wd_4_15) dX1_takeBack_1 ?_
  refine lv_iconst (v := 1) hx hb dX1_takeBack_4 (by decide) ?_
  refine lv_icmp_ge (tgt := 10) hx hb dX1_takeBack_5 (by decide) (fun c1 => ?_) (fun c1 => ?_)
  · have hF := it_t hF c1
    refine lv_aload_n hx hb dX1_takeBack_10 rfl (lv_at hl 0 rfl) ?_
    refine lv_dup hx hb dX1_takeBack_11 rfl ?_
    refine gf_1_1 C h ka0 iz_X1 (List.mem_cons_of_mem _ wd_4_15) dX1_takeBack_12 ?_
    refine lv_iconst (v := 1) hx hb dX1_takeBack_15 (by decide) ?_
    refine lv_isub hx hb dX1_takeBack_16 ?_
    refine pf_1_1 C h ka0 iz_X1 (List.mem_cons_of_mem _ wd_4_15) dX1_takeBack_17 (fun H locs h => ?_)
    obtain ⟨σ2, eσ2⟩ : ∃ y : bz_W, y = bz_wi σ a0 1 ((σ.1 a0 1) - 1) := ⟨_, rfl⟩
    rw [← eσ2] at h
    have hF := lt_u hF σ2 eσ2
    refine lv_aload_n hx hb dX1_takeBack_20 rfl (lv_at hl 1 rfl) ?_
    refine lv_aload_n hx hb dX1_takeBack_21 rfl (lv_at hl 0 rfl) ?_
    refine gf_1_0 C h ka0 iz_X1 (List.mem_cons_of_mem _ wd_3_21) dX1_takeBack_22 (fun k3 => ?_)
    refine lv_aload_n hx hb dX1_takeBack_25 rfl (lv_at hl 0 rfl) ?_
    refine gf_1_1 C h ka0 iz_X1 (List.mem_cons_of_mem _ wd_4_15) dX1_takeBack_26 ?_
    obtain ⟨c4, hF⟩ := ck_u hF
    refine bz_aalds C h k3 c4 (kx := ((σ2.1 a0 1) : Int32).toNatClampNeg) rfl dX1_takeBack_29 (fun k5 => ?_)
    obtain ⟨r6, σ7, qr6, hF⟩ := bd_u hF
    refine bz_callV (rest := []) (st1 := []) C h (As := [.ref (σ2.2 (σ2.2 a0 0) ((σ2.1 a0 1) : Int32).toNatClampNeg)]) (o := none) (τ := σ7) (c_X3_copyFrom (l := l) ka1 k5 (res := (r6, σ7)) qr6) ka1 (by decide) (ci := 3) rfl (cwV 1 hts (bz_gV wd_4_16 wd_4_17 wd_4_18 wd_1_11 wd_4_19) rfl rfl rfl (by decide +kernel) ⟨Nat.le_of_ble_eq_true rfl, Nat.le_of_ble_eq_true rfl⟩) rfl hl.1 rfl (by decide) ⟨Nat.le_of_ble_eq_true rfl, Nat.le_of_ble_eq_true rfl⟩ dX1_takeBack_30 rfl (fun H locs h => ?_)
    refine lv_iconst (v := 1) hx hb dX1_takeBack_33 (by decide) ?_
    exact bz_zret C h hlocks hr (by decide) hF dX1_takeBack_34
  · have hF := it_f hF c1
    refine lv_iconst (v := 0) hx hb dX1_takeBack_8 (by decide) ?_
    exact bz_zret C h hlocks hr (by decide) hF dX1_takeBack_9
set_option maxHeartbeats 4000000 in
set_option maxRecDepth 100000 in
theorem c_X6_rampCurrent {l : Launch} {G : bz_G} {σ : bz_W} {x0_ : Int32} {x1_ : Int32} {x2_ : Int32}  {res : Int32 × bz_W} (hF : f_X6_rampCurrent σ x0_ x1_ x2_ = some res) : bz_M l yX6_rampCurrent wz_X6_rampCurrent 0 0 G σ [.int x0_, .int x1_, .int x2_] (some (.int res.1)) res.2 := by
  refine bz_mk (cc := cX6_rampCurrent) (maxL := 3) (ret := (some .int)) (own := RX6) (by decide) rfl rfl (Nat.le_of_ble_eq_true rfl) ?_
  intro p e s m args below meth c ls C hlocks hr h hl
  have hx := C.1
  have hb := C.2.1
  have hts := C.2.2.2.2.1
  have hl : lv_has ls 3 [(0, .int x0_), (1, .int x1_), (2, .int x2_)] := hl
  obtain ⟨H, eH⟩ : ∃ y, y = s.heap := ⟨_, rfl⟩
  obtain ⟨locs, el⟩ : ∃ y : List Loc, y = [] := ⟨_, rfl⟩
  rw [← el, ← eH] at h ⊢
  unfold f_X6_rampCurrent at hF
  refine lv_iload_n hx hb dX6_rampCurrent_0 rfl (lv_at hl 1 rfl) ?_
  refine lv_iconst (v := 1) hx hb dX6_rampCurrent_1 (by decide) ?_
  refine lv_icmp_ge (tgt := 9) hx hb dX6_rampCurrent_2 (by decide) (fun c1 => ?_) (fun c1 => ?_)
  · have hF := it_t hF c1
    refine lv_iload_n hx hb dX6_rampCurrent_9 rfl (lv_at hl 0 rfl) ?_
    refine lv_iload_n hx hb dX6_rampCurrent_10 rfl (lv_at hl 2 rfl) ?_
    refine lv_iconst (v := 1) hx hb dX6_rampCurrent_11 (by decide) ?_
    refine lv_iadd hx hb dX6_rampCurrent_12 ?_
    refine lv_imul hx hb dX6_rampCurrent_13 ?_
    refine lv_iload_n hx hb dX6_rampCurrent_14 rfl (lv_at hl 1 rfl) ?_
    refine lv_iadd hx hb dX6_rampCurrent_15 ?_
    refine lv_iconst (v := 1) hx hb dX6_rampCurrent_16 (by decide) ?_
    refine lv_isub hx hb dX6_rampCurrent_17 ?_
    refine lv_iload_n hx hb dX6_rampCurrent_18 rfl (lv_at hl 1 rfl) ?_
    obtain ⟨c2, hF⟩ := ck_u hF
    refine lv_idiv hx hb dX6_rampCurrent_19 (by simpa using c2) ?_
    exact bz_iret C h hlocks hr hF dX6_rampCurrent_20
  · have hF := it_f hF c1
    refine lv_iconst (v := 0) hx hb dX6_rampCurrent_5 (by decide) ?_
    refine lv_goto (tgt := 20) hx hb dX6_rampCurrent_6 (by decide) ?_
    exact bz_iret C h hlocks hr hF dX6_rampCurrent_20
set_option maxHeartbeats 4000000 in
set_option maxRecDepth 100000 in
theorem c_X6_heatOf {l : Launch} {G : bz_G} {σ : bz_W} {x0_ : Int32}  {res : Int32 × bz_W} (hF : f_X6_heatOf σ x0_ = some res) : bz_M l yX6_heatOf wz_X6_heatOf 0 0 G σ [.int x0_] (some (.int res.1)) res.2 := by
  refine bz_mk (cc := cX6_heatOf) (maxL := 1) (ret := (some .int)) (own := RX6) (by decide) rfl rfl (Nat.le_of_ble_eq_true rfl) ?_
  intro p e s m args below meth c ls C hlocks hr h hl
  have hx := C.1
  have hb := C.2.1
  have hts := C.2.2.2.2.1
  have hl : lv_has ls 1 [(0, .int x0_)] := hl
  obtain ⟨H, eH⟩ : ∃ y, y = s.heap := ⟨_, rfl⟩
  obtain ⟨locs, el⟩ : ∃ y : List Loc, y = [] := ⟨_, rfl⟩
  rw [← el, ← eH] at h ⊢
  unfold f_X6_heatOf at hF
  refine lv_iload_n hx hb dX6_heatOf_0 rfl (lv_at hl 0 rfl) ?_
  refine lv_iload_n hx hb dX6_heatOf_1 rfl (lv_at hl 0 rfl) ?_
  refine lv_imul hx hb dX6_heatOf_2 ?_
  refine lv_bipush (v := 10) hx hb dX6_heatOf_3 (by decide) ?_
  refine lv_idiv hx hb dX6_heatOf_5 (by decide) ?_
  exact bz_iret C h hlocks hr hF dX6_heatOf_6
set_option maxHeartbeats 4000000 in
set_option maxRecDepth 100000 in
theorem L_X6_heatOfStart_L4 {p : Program} {l : Launch} {e : Env} {s : State} {m : MethodId} {args : Array Value} {below : List Frame} {meth : Method} {c : Code} {G : bz_G} (C : bz_C p s m c args cX6_heatOfStart 4 RX6 wz_X6_heatOfStart G) (hlocks : meth.locks = false) (hr : meth.sig.returnType = (some .int)) {a0 : Int32} {a1 : Int32}  {k : Int32 → bz_W → Option (Int32 × bz_W)} {res : Int32 × bz_W} : ∀ (n : Nat) (v2 : Int32) (v3 : Int32) (σ : bz_W) (H : Heap) (locs : List Loc) (ls : Array Slot), f_X6_heatOfStart_L4 a0 a1 k n v2 v3 σ = some res → bz_H G s σ H locs → lv_has ls 4 [(0, .int a0), (1, .int a1), (2, .int v2), (3, .int v3)] → (∀ (w2 : Int32) (σ : bz_W) (H : Heap) (locs : List Loc) (ls : Array Slot), k w2 σ = some res → bz_H G s σ H locs → lv_has ls 4 [(2, .int w2)] → W p l e ({ frames := 1, cells := 0, slots := 0, locals := 22 } : Room) s m args below meth c H locs 0 0 (MQ below (bz_Qc G (some (.int res.1)) res.2) args s 0 0 (bz_A G)) (F0 m 27 ls [])) → W p l e ({ frames := 1, cells := 0, slots := 0, locals := 22 } : Room) s m args below meth c H locs 0 0 (MQ below (bz_Qc G (some (.int res.1)) res.2) args s 0 0 (bz_A G)) (F0 m 4 ls []) := by
  have hx := C.1
  have hb := C.2.1
  have hts := C.2.2.2.2.1
  intro n
  induction n with
  | zero =>
    intro v2 v3 σ H locs ls hF
    exact absurd hF (by simp [f_X6_heatOfStart_L4])
  | succ n ih =>
    intro v2 v3 σ H locs ls hF h hl hk
    rw [f_X6_heatOfStart_L4] at hF
    refine lv_iload_n hx hb dX6_heatOfStart_4 rfl (lv_at hl 3 rfl) ?_
    refine lv_iload_n hx hb dX6_heatOfStart_5 rfl (lv_at hl 1 rfl) ?_
    refine lv_icmp_ge (tgt := 27) hx hb dX6_heatOfStart_6 (by decide) (fun c1 => ?_) (fun c1 => ?_)
    · have hF := it_t hF c1
      exact hk _ _ H locs ls hF h (lv_sub hl [2] rfl)
    · have hF := it_f hF c1
      refine lv_iload_n hx hb dX6_heatOfStart_9 rfl (lv_at hl 2 rfl) ?_
      refine lv_iload_n hx hb dX6_heatOfStart_10 rfl (lv_at hl 0 rfl) ?_
      refine lv_iload_n hx hb dX6_heatOfStart_11 rfl (lv_at hl 1 rfl) ?_
      refine lv_iload_n hx hb dX6_heatOfStart_12 rfl (lv_at hl 3 rfl) ?_
      obtain ⟨r2, σ3, qr2, hF⟩ := bd_u hF
      refine bz_callS (rest := [.int v2]) (st1 := [.int r2, .int v2]) C h (As := [.int a0, .int a1, .int v3]) (o := some (.int r2)) (τ := σ3) (c_X6_rampCurrent (l := l)  (res := (r2, σ3)) qr2) (va_cwS 3 hts (bz_gS wd_22_9 wd_17_13 wd_1_2 wd_17_14) rfl rfl rfl (by decide +kernel) ⟨Nat.le_of_ble_eq_true rfl, Nat.le_of_ble_eq_true rfl⟩) rfl hl.1 rfl (Nat.le_of_ble_eq_true rfl) ⟨Nat.le_of_ble_eq_true rfl, Nat.le_of_ble_eq_true rfl⟩ dX6_heatOfStart_13 rfl (fun H locs h => ?_)
      obtain ⟨r4, σ5, qr4, hF⟩ := bd_u hF
      refine bz_callS (rest := [.int v2]) (st1 := [.int r4, .int v2]) C h (As := [.int r2]) (o := some (.int r4)) (τ := σ5) (c_X6_heatOf (l := l)  (res := (r4, σ5)) qr4) (va_cwS 1 hts (bz_gS wd_22_10 wd_20_3 wd_1_2 wd_20_4) rfl rfl rfl (by decide +kernel) ⟨Nat.le_of_ble_eq_true rfl, Nat.le_of_ble_eq_true rfl⟩) rfl hl.1 rfl (Nat.le_of_ble_eq_true rfl) ⟨Nat.le_of_ble_eq_true rfl, Nat.le_of_ble_eq_true rfl⟩ dX6_heatOfStart_16 rfl (fun H locs h => ?_)
      refine lv_iadd hx hb dX6_heatOfStart_19 ?_
      refine lv_topi (fun x6 ex6 => ?_)
      have hF := lt_u hF x6 ex6
      refine lv_istore_n (lv' := [(2, .int x6), (0, .int a0), (1, .int a1), (3, .int v3)]) hx hb dX6_heatOfStart_20 rfl hl (by decide) rfl (fun ls hl => ?_)
      obtain ⟨x7, ex7⟩ : ∃ y : Int32, y = v3 + 1 := ⟨_, rfl⟩
      have hF := lt_u hF x7 ex7
      refine lv_iinc (v := x7) (lv' := [(3, .int x7), (2, .int x6), (0, .int a0), (1, .int a1)]) hx hb dX6_heatOfStart_21 hl (k := 3) rfl (by rw [ex7]; rfl) (by decide) rfl (fun ls hl => ?_)
      refine lv_goto (tgt := 4) hx hb dX6_heatOfStart_24 (by decide) ?_
      exact ih _ _ _ H locs ls hF h (lv_sub hl [2, 3, 1, 0] rfl) hk
set_option maxHeartbeats 4000000 in
set_option maxRecDepth 100000 in
theorem c_X6_heatOfStart {l : Launch} {G : bz_G} {σ : bz_W} {x0_ : Int32} {x1_ : Int32}  {res : Int32 × bz_W} (hF : f_X6_heatOfStart σ x0_ x1_ = some res) : bz_M l yX6_heatOfStart wz_X6_heatOfStart 1 22 G σ [.int x0_, .int x1_] (some (.int res.1)) res.2 := by
  refine bz_mk (cc := cX6_heatOfStart) (maxL := 4) (ret := (some .int)) (own := RX6) (by decide) rfl rfl (Nat.le_of_ble_eq_true rfl) ?_
  intro p e s m args below meth c ls C hlocks hr h hl
  have hx := C.1
  have hb := C.2.1
  have hts := C.2.2.2.2.1
  have hl : lv_has ls 4 [(0, .int x0_), (1, .int x1_)] := hl
  obtain ⟨H, eH⟩ : ∃ y, y = s.heap := ⟨_, rfl⟩
  obtain ⟨locs, el⟩ : ∃ y : List Loc, y = [] := ⟨_, rfl⟩
  rw [← el, ← eH] at h ⊢
  unfold f_X6_heatOfStart at hF
  refine lv_iconst (v := 0) hx hb dX6_heatOfStart_0 (by decide) ?_
  refine lv_istore_n (lv' := [(2, .int 0), (0, .int x0_), (1, .int x1_)]) hx hb dX6_heatOfStart_1 rfl hl (by decide) rfl (fun ls hl => ?_)
  refine lv_iconst (v := 0) hx hb dX6_heatOfStart_2 (by decide) ?_
  refine lv_istore_n (lv' := [(3, .int 0), (2, .int 0), (0, .int x0_), (1, .int x1_)]) hx hb dX6_heatOfStart_3 rfl hl (by decide) rfl (fun ls hl => ?_)
  refine L_X6_heatOfStart_L4 C hlocks hr  _ _ _ _ H locs ls hF h (lv_sub hl [2, 3, 1, 0] rfl) ?_
  intro x8 σ9 H locs ls hF h hl
  refine lv_iload_n hx hb dX6_heatOfStart_27 rfl (lv_at hl 0 rfl) ?_
  exact bz_iret C h hlocks hr hF dX6_heatOfStart_28
set_option maxHeartbeats 4000000 in
set_option maxRecDepth 100000 in
theorem L_X2_begin_L75 {p : Program} {l : Launch} {e : Env} {s : State} {m : MethodId} {args : Array Value} {below : List Frame} {meth : Method} {c : Code} {G : bz_G} (C : bz_C p s m c args cX2_begin 6 RX2 wz_X2_begin G) (hlocks : meth.locks = false) (hr : meth.sig.returnType = none) {a0 : Nat} (ka0 : bz_k G a0 = (3, 0)) {k : bz_W → Option (Int32 × bz_W)} {res : Int32 × bz_W} : ∀ (n : Nat) (v5 : Int32) (σ : bz_W) (H : Heap) (locs : List Loc) (ls : Array Slot), f_X2_begin_L75 a0 k n v5 σ = some res → bz_H G s σ H locs → lv_has ls 6 [(0, .ref a0), (5, .int v5)] → (∀ (σ : bz_W) (H : Heap) (locs : List Loc) (ls : Array Slot), k σ = some res → bz_H G s σ H locs → lv_has ls 6 [] → W p l e ({ frames := 2, cells := 0, slots := 0, locals := 45 } : Room) s m args below meth c H locs 0 0 (MQ below (bz_Qc G none res.2) args s 0 0 (bz_A G)) (F0 m 96 ls [])) → W p l e ({ frames := 2, cells := 0, slots := 0, locals := 45 } : Room) s m args below meth c H locs 0 0 (MQ below (bz_Qc G none res.2) args s 0 0 (bz_A G)) (F0 m 75 ls []) := by
  have hx := C.1
  have hb := C.2.1
  have hts := C.2.2.2.2.1
  intro n
  induction n with
  | zero =>
    intro v5 σ H locs ls hF
    exact absurd hF (by simp [f_X2_begin_L75])
  | succ n ih =>
    intro v5 σ H locs ls hF h hl hk
    rw [f_X2_begin_L75] at hF
    refine lv_iload hx hb dX2_begin_75 (lv_at hl 1 rfl) ?_
    refine lv_bipush (v := 7) hx hb dX2_begin_77 (by decide) ?_
    refine lv_icmp_ge (tgt := 96) hx hb dX2_begin_79 (by decide) (fun c16 => ?_) (fun c16 => ?_)
    · have hF := it_t hF c16
      exact hk _ H locs ls hF h (lv_sub hl [] rfl)
    · have hF := it_f hF c16
      refine lv_aload_n hx hb dX2_begin_82 rfl (lv_at hl 0 rfl) ?_
      refine gf_2_1 C h ka0 iz_X2 (List.mem_cons_of_mem _ wd_3_0) dX2_begin_83 (fun k17 => ?_)
      refine lv_iload hx hb dX2_begin_86 (lv_at hl 1 rfl) ?_
      refine lv_iconst (v := 0) hx hb dX2_begin_88 (by decide) ?_
      obtain ⟨c18, hF⟩ := ck_u hF
      refine bz_iast C h k17 c18 (kx := v5.toNatClampNeg) rfl dX2_begin_89 (fun H locs h => ?_)
      obtain ⟨σ19, eσ19⟩ : ∃ y : bz_W, y = bz_wi σ (σ.2 a0 1) v5.toNatClampNeg 0 := ⟨_, rfl⟩
      rw [← eσ19] at h
      have hF := lt_u hF σ19 eσ19
      obtain ⟨x20, ex20⟩ : ∃ y : Int32, y = v5 + 1 := ⟨_, rfl⟩
      have hF := lt_u hF x20 ex20
      refine lv_iinc (v := x20) (lv' := [(5, .int x20), (0, .ref a0)]) hx hb dX2_begin_90 hl (k := 1) rfl (by rw [ex20]; rfl) (by decide) rfl (fun ls hl => ?_)
      refine lv_goto (tgt := 75) hx hb dX2_begin_93 (by decide) ?_
      exact ih _ _ H locs ls hF h (lv_sub hl [1, 0] rfl) hk
set_option maxHeartbeats 4000000 in
set_option maxRecDepth 100000 in
theorem c_X2_begin {l : Launch} {G : bz_G} {σ : bz_W} {a0 : Nat} {x1_ : Int32} {x2_ : Int32} {x3_ : Int32} {x4_ : Int32} (ka0 : bz_k G a0 = (3, 0)) {res : Int32 × bz_W} (hF : f_X2_begin σ a0 x1_ x2_ x3_ x4_ = some res) : bz_M l yX2_begin wz_X2_begin 2 45 G σ [.ref a0, .int x1_, .int x2_, .int x3_, .int x4_] none res.2 := by
  refine bz_mk (cc := cX2_begin) (maxL := 6) (ret := none) (own := RX2) (by decide) rfl rfl (Nat.le_of_ble_eq_true rfl) ?_
  intro p e s m args below meth c ls C hlocks hr h hl
  have hx := C.1
  have hb := C.2.1
  have hts := C.2.2.2.2.1
  have hl : lv_has ls 6 [(0, .ref a0), (1, .int x1_), (2, .int x2_), (3, .int x3_), (4, .int x4_)] := hl
  obtain ⟨H, eH⟩ : ∃ y, y = s.heap := ⟨_, rfl⟩
  obtain ⟨locs, el⟩ : ∃ y : List Loc, y = [] := ⟨_, rfl⟩
  rw [← el, ← eH] at h ⊢
  unfold f_X2_begin at hF
  refine lv_aload_n hx hb dX2_begin_0 rfl (lv_at hl 0 rfl) ?_
  refine lv_iload_n hx hb dX2_begin_1 rfl (lv_at hl 1 rfl) ?_
  refine pf_2_2 C h ka0 iz_X2 (List.mem_cons_of_mem _ wd_5_4) dX2_begin_2 (fun H locs h => ?_)
  obtain ⟨σ1, eσ1⟩ : ∃ y : bz_W, y = bz_wi σ a0 2 x1_ := ⟨_, rfl⟩
  rw [← eσ1] at h
  have hF := lt_u hF σ1 eσ1
  refine lv_aload_n hx hb dX2_begin_5 rfl (lv_at hl 0 rfl) ?_
  refine lv_iload_n hx hb dX2_begin_6 rfl (lv_at hl 2 rfl) ?_
  refine pf_2_3 C h ka0 iz_X2 (List.mem_cons_of_mem _ wd_5_5) dX2_begin_7 (fun H locs h => ?_)
  obtain ⟨σ2, eσ2⟩ : ∃ y : bz_W, y = bz_wi σ1 a0 3 x2_ := ⟨_, rfl⟩
  rw [← eσ2] at h
  have hF := lt_u hF σ2 eσ2
  refine lv_aload_n hx hb dX2_begin_10 rfl (lv_at hl 0 rfl) ?_
  refine lv_iload_n hx hb dX2_begin_11 rfl (lv_at hl 3 rfl) ?_
  refine pf_2_4 C h ka0 iz_X2 (List.mem_cons_of_mem _ wd_5_6) dX2_begin_12 (fun H locs h => ?_)
  obtain ⟨σ3, eσ3⟩ : ∃ y : bz_W, y = bz_wi σ2 a0 4 x3_ := ⟨_, rfl⟩
  rw [← eσ3] at h
  have hF := lt_u hF σ3 eσ3
  refine lv_aload_n hx hb dX2_begin_15 rfl (lv_at hl 0 rfl) ?_
  refine lv_iload hx hb dX2_begin_16 (lv_at hl 4 rfl) ?_
  refine pf_2_5 C h ka0 iz_X2 (List.mem_cons_of_mem _ wd_5_7) dX2_begin_18 (fun H locs h => ?_)
  obtain ⟨σ4, eσ4⟩ : ∃ y : bz_W, y = bz_wi σ3 a0 5 x4_ := ⟨_, rfl⟩
  rw [← eσ4] at h
  have hF := lt_u hF σ4 eσ4
  refine lv_aload_n hx hb dX2_begin_21 rfl (lv_at hl 0 rfl) ?_
  refine lv_iload_n hx hb dX2_begin_22 rfl (lv_at hl 1 rfl) ?_
  refine lv_iload_n hx hb dX2_begin_23 rfl (lv_at hl 3 rfl) ?_
  refine lv_imul hx hb dX2_begin_24 ?_
  refine lv_iload_n hx hb dX2_begin_25 rfl (lv_at hl 2 rfl) ?_
  obtain ⟨r5, σ6, qr5, hF⟩ := bd_u hF
  refine bz_callN (rest := [.ref a0]) (st1 := [.int r5, .ref a0]) C h (As := [.int (x1_ * x3_), .int x2_]) (o := some (.int r5)) (τ := σ6) (c_X6_heatOfStart (l := l)  (res := (r5, σ6)) qr5) ⟨va_cnB 2 hts (bz_g0 wd_22_8) rfl rfl rfl (C.2.2.2.2.2.1.2.1.1) (hts _ (List.mem_cons_of_mem _ wd_1_2)) (by decide +kernel) ⟨Nat.le_of_ble_eq_true rfl, Nat.le_of_ble_eq_true rfl⟩, hts _ (List.mem_cons_of_mem _ wd_22_7), trivial⟩ rfl hl.1 rfl (Nat.le_of_ble_eq_true rfl) ⟨Nat.le_of_ble_eq_true rfl, Nat.le_of_ble_eq_true rfl⟩ dX2_begin_26 rfl (fun H locs h => ?_)
  refine pf_2_6 C h ka0 iz_X2 (List.mem_cons_of_mem _ wd_5_8) dX2_begin_29 (fun H locs h => ?_)
  obtain ⟨σ7, eσ7⟩ : ∃ y : bz_W, y = bz_wi σ6 a0 6 r5 := ⟨_, rfl⟩
  rw [← eσ7] at h
  have hF := lt_u hF σ7 eσ7
  refine lv_aload_n hx hb dX2_begin_32 rfl (lv_at hl 0 rfl) ?_
  refine lv_iconst (v := 5) hx hb dX2_begin_33 (by decide) ?_
  refine pf_2_7 C h ka0 iz_X2 (List.mem_cons_of_mem _ wd_5_9) dX2_begin_34 (fun H locs h => ?_)
  obtain ⟨σ8, eσ8⟩ : ∃ y : bz_W, y = bz_wi σ7 a0 7 5 := ⟨_, rfl⟩
  rw [← eσ8] at h
  have hF := lt_u hF σ8 eσ8
  refine lv_aload_n hx hb dX2_begin_37 rfl (lv_at hl 0 rfl) ?_
  refine lv_iconst (v := 0) hx hb dX2_begin_38 (by decide) ?_
  refine pf_2_8 C h ka0 iz_X2 (List.mem_cons_of_mem _ wd_5_10) dX2_begin_39 (fun H locs h => ?_)
  obtain ⟨σ9, eσ9⟩ : ∃ y : bz_W, y = bz_wi σ8 a0 8 0 := ⟨_, rfl⟩
  rw [← eσ9] at h
  have hF := lt_u hF σ9 eσ9
  refine lv_aload_n hx hb dX2_begin_42 rfl (lv_at hl 0 rfl) ?_
  refine lv_iconst (v := 0) hx hb dX2_begin_43 (by decide) ?_
  refine pf_2_9 C h ka0 iz_X2 (List.mem_cons_of_mem _ wd_5_11) dX2_begin_44 (fun H locs h => ?_)
  obtain ⟨σ10, eσ10⟩ : ∃ y : bz_W, y = bz_wi σ9 a0 9 0 := ⟨_, rfl⟩
  rw [← eσ10] at h
  have hF := lt_u hF σ10 eσ10
  refine lv_aload_n hx hb dX2_begin_47 rfl (lv_at hl 0 rfl) ?_
  refine lv_iconst (v := 0) hx hb dX2_begin_48 (by decide) ?_
  refine pf_2_10 C h ka0 iz_X2 (List.mem_cons_of_mem _ wd_5_12) dX2_begin_49 (fun H locs h => ?_)
  obtain ⟨σ11, eσ11⟩ : ∃ y : bz_W, y = bz_wi σ10 a0 10 0 := ⟨_, rfl⟩
  rw [← eσ11] at h
  have hF := lt_u hF σ11 eσ11
  refine lv_aload_n hx hb dX2_begin_52 rfl (lv_at hl 0 rfl) ?_
  refine lv_iconst (v := 0) hx hb dX2_begin_53 (by decide) ?_
  refine pf_2_11 C h ka0 iz_X2 (List.mem_cons_of_mem _ wd_5_13) dX2_begin_54 (fun H locs h => ?_)
  obtain ⟨σ12, eσ12⟩ : ∃ y : bz_W, y = bz_wi σ11 a0 11 0 := ⟨_, rfl⟩
  rw [← eσ12] at h
  have hF := lt_u hF σ12 eσ12
  refine lv_aload_n hx hb dX2_begin_57 rfl (lv_at hl 0 rfl) ?_
  refine lv_iconst (v := 0) hx hb dX2_begin_58 (by decide) ?_
  refine pf_2_12 C h ka0 iz_X2 (List.mem_cons_of_mem _ wd_5_14) dX2_begin_59 (fun H locs h => ?_)
  obtain ⟨σ13, eσ13⟩ : ∃ y : bz_W, y = bz_wi σ12 a0 12 0 := ⟨_, rfl⟩
  rw [← eσ13] at h
  have hF := lt_u hF σ13 eσ13
  refine lv_aload_n hx hb dX2_begin_62 rfl (lv_at hl 0 rfl) ?_
  refine lv_iconst (v := 0) hx hb dX2_begin_63 (by decide) ?_
  refine pf_2_13 C h ka0 iz_X2 (List.mem_cons_of_mem _ wd_5_15) dX2_begin_64 (fun H locs h => ?_)
  obtain ⟨σ14, eσ14⟩ : ∃ y : bz_W, y = bz_wi σ13 a0 13 0 := ⟨_, rfl⟩
  rw [← eσ14] at h
  have hF := lt_u hF σ14 eσ14
  refine lv_aload_n hx hb dX2_begin_67 rfl (lv_at hl 0 rfl) ?_
  refine lv_iconst (v := 0) hx hb dX2_begin_68 (by decide) ?_
  refine pf_2_14 C h ka0 iz_X2 (List.mem_cons_of_mem _ wd_5_16) dX2_begin_69 (fun H locs h => ?_)
  obtain ⟨σ15, eσ15⟩ : ∃ y : bz_W, y = bz_wi σ14 a0 14 0 := ⟨_, rfl⟩
  rw [← eσ15] at h
  have hF := lt_u hF σ15 eσ15
  refine lv_iconst (v := 0) hx hb dX2_begin_72 (by decide) ?_
  refine lv_istore (lv' := [(5, .int 0), (0, .ref a0), (1, .int x1_), (2, .int x2_), (3, .int x3_), (4, .int x4_)]) hx hb dX2_begin_73 hl (by decide) rfl (fun ls hl => ?_)
  refine L_X2_begin_L75 C hlocks hr ka0 _ _ _ H locs ls hF h (lv_sub hl [1, 0] rfl) ?_
  intro σ21 H locs ls hF h hl
  exact bz_vret C h hlocks hr hF dX2_begin_96
set_option maxHeartbeats 4000000 in
set_option maxRecDepth 100000 in
theorem c_X2_turns {l : Launch} {G : bz_G} {σ : bz_W} {a0 : Nat} (ka0 : bz_k G a0 = (3, 0)) {res : Int32 × bz_W} (hF : f_X2_turns σ a0 = some res) : bz_M l yX2_turns wz_X2_turns 0 0 G σ [.ref a0] (some (.int res.1)) res.2 := by
  refine bz_mk (cc := cX2_turns) (maxL := 1) (ret := (some .boolean)) (own := RX2) (by decide) rfl rfl (Nat.le_of_ble_eq_true rfl) ?_
  intro p e s m args below meth c ls C hlocks hr h hl
  have hx := C.1
  have hb := C.2.1
  have hts := C.2.2.2.2.1
  have hl : lv_has ls 1 [(0, .ref a0)] := hl
  obtain ⟨H, eH⟩ : ∃ y, y = s.heap := ⟨_, rfl⟩
  obtain ⟨locs, el⟩ : ∃ y : List Loc, y = [] := ⟨_, rfl⟩
  rw [← el, ← eH] at h ⊢
  unfold f_X2_turns at hF
  refine lv_aload_n hx hb dX2_turns_0 rfl (lv_at hl 0 rfl) ?_
  refine gf_2_8 C h ka0 iz_X2 (List.mem_cons_of_mem _ wd_5_10) dX2_turns_1 ?_
  refine lv_iconst (v := 2) hx hb dX2_turns_4 (by decide) ?_
  refine lv_icmp_eq (tgt := 16) hx hb dX2_turns_5 (by decide) (fun c1 => ?_) (fun c1 => ?_)
  · have hF := it_t hF c1
    refine lv_iconst (v := 1) hx hb dX2_turns_16 (by decide) ?_
    refine lv_goto (tgt := 21) hx hb dX2_turns_17 (by decide) ?_
    exact bz_zret C h hlocks hr (by decide) hF dX2_turns_21
  · have hF := it_f hF c1
    refine lv_aload_n hx hb dX2_turns_8 rfl (lv_at hl 0 rfl) ?_
    refine gf_2_8 C h ka0 iz_X2 (List.mem_cons_of_mem _ wd_5_10) dX2_turns_9 ?_
    refine lv_iconst (v := 3) hx hb dX2_turns_12 (by decide) ?_
    refine lv_icmp_ne (tgt := 20) hx hb dX2_turns_13 (by decide) (fun c2 => ?_) (fun c2 => ?_)
    · have hF := it_f hF c2
      refine lv_iconst (v := 0) hx hb dX2_turns_20 (by decide) ?_
      exact bz_zret C h hlocks hr (by decide) hF dX2_turns_21
    · have hF := it_t hF c2
      refine lv_iconst (v := 1) hx hb dX2_turns_16 (by decide) ?_
      refine lv_goto (tgt := 21) hx hb dX2_turns_17 (by decide) ?_
      exact bz_zret C h hlocks hr (by decide) hF dX2_turns_21
set_option maxHeartbeats 4000000 in
set_option maxRecDepth 100000 in
theorem c_X2_peak {l : Launch} {G : bz_G} {σ : bz_W} {a0 : Nat} (ka0 : bz_k G a0 = (3, 0)) {res : Int32 × bz_W} (hF : f_X2_peak σ a0 = some res) : bz_M l yX2_peak wz_X2_peak 0 0 G σ [.ref a0] (some (.int res.1)) res.2 := by
  refine bz_mk (cc := cX2_peak) (maxL := 1) (ret := (some .int)) (own := RX2) (by decide) rfl rfl (Nat.le_of_ble_eq_true rfl) ?_
  intro p e s m args below meth c ls C hlocks hr h hl
  have hx := C.1
  have hb := C.2.1
  have hts := C.2.2.2.2.1
  have hl : lv_has ls 1 [(0, .ref a0)] := hl
  obtain ⟨H, eH⟩ : ∃ y, y = s.heap := ⟨_, rfl⟩
  obtain ⟨locs, el⟩ : ∃ y : List Loc, y = [] := ⟨_, rfl⟩
  rw [← el, ← eH] at h ⊢
  unfold f_X2_peak at hF
  refine lv_aload_n hx hb dX2_peak_0 rfl (lv_at hl 0 rfl) ?_
  refine gf_2_2 C h ka0 iz_X2 (List.mem_cons_of_mem _ wd_5_4) dX2_peak_1 ?_
  refine lv_aload_n hx hb dX2_peak_4 rfl (lv_at hl 0 rfl) ?_
  refine gf_2_4 C h ka0 iz_X2 (List.mem_cons_of_mem _ wd_5_6) dX2_peak_5 ?_
  refine lv_imul hx hb dX2_peak_8 ?_
  exact bz_iret C h hlocks hr hF dX2_peak_9
set_option maxHeartbeats 4000000 in
set_option maxRecDepth 100000 in
theorem c_X2_credit {l : Launch} {G : bz_G} {σ : bz_W} {a0 : Nat} (ka0 : bz_k G a0 = (3, 0)) {res : Int32 × bz_W} (hF : f_X2_credit σ a0 = some res) : bz_M l yX2_credit wz_X2_credit 0 0 G σ [.ref a0] (some (.int res.1)) res.2 := by
  refine bz_mk (cc := cX2_credit) (maxL := 1) (ret := (some .int)) (own := RX2) (by decide) rfl rfl (Nat.le_of_ble_eq_true rfl) ?_
  intro p e s m args below meth c ls C hlocks hr h hl
  have hx := C.1
  have hb := C.2.1
  have hts := C.2.2.2.2.1
  have hl : lv_has ls 1 [(0, .ref a0)] := hl
  obtain ⟨H, eH⟩ : ∃ y, y = s.heap := ⟨_, rfl⟩
  obtain ⟨locs, el⟩ : ∃ y : List Loc, y = [] := ⟨_, rfl⟩
  rw [← el, ← eH] at h ⊢
  unfold f_X2_credit at hF
  refine lv_aload_n hx hb dX2_credit_0 rfl (lv_at hl 0 rfl) ?_
  refine gf_2_5 C h ka0 iz_X2 (List.mem_cons_of_mem _ wd_5_7) dX2_credit_1 ?_
  refine lv_aload_n hx hb dX2_credit_4 rfl (lv_at hl 0 rfl) ?_
  refine gf_2_9 C h ka0 iz_X2 (List.mem_cons_of_mem _ wd_5_11) dX2_credit_5 ?_
  refine lv_isub hx hb dX2_credit_8 ?_
  exact bz_iret C h hlocks hr hF dX2_credit_9
set_option maxHeartbeats 4000000 in
set_option maxRecDepth 100000 in
theorem c_X2_draw {l : Launch} {G : bz_G} {σ : bz_W} {a0 : Nat} (ka0 : bz_k G a0 = (3, 0)) {res : Int32 × bz_W} (hF : f_X2_draw σ a0 = some res) : bz_M l yX2_draw wz_X2_draw 1 22 G σ [.ref a0] (some (.int res.1)) res.2 := by
  refine bz_mk (cc := cX2_draw) (maxL := 1) (ret := (some .int)) (own := RX2) (by decide) rfl rfl (Nat.le_of_ble_eq_true rfl) ?_
  intro p e s m args below meth c ls C hlocks hr h hl
  have hx := C.1
  have hb := C.2.1
  have hts := C.2.2.2.2.1
  have hl : lv_has ls 1 [(0, .ref a0)] := hl
  obtain ⟨H, eH⟩ : ∃ y, y = s.heap := ⟨_, rfl⟩
  obtain ⟨locs, el⟩ : ∃ y : List Loc, y = [] := ⟨_, rfl⟩
  rw [← el, ← eH] at h ⊢
  unfold f_X2_draw at hF
  refine lv_aload_n hx hb dX2_draw_0 rfl (lv_at hl 0 rfl) ?_
  refine gf_2_8 C h ka0 iz_X2 (List.mem_cons_of_mem _ wd_5_10) dX2_draw_1 ?_
  refine lv_iconst (v := 2) hx hb dX2_draw_4 (by decide) ?_
  refine lv_icmp_ne (tgt := 24) hx hb dX2_draw_5 (by decide) (fun c1 => ?_) (fun c1 => ?_)
  · have hF := it_f hF c1
    refine lv_aload_n hx hb dX2_draw_24 rfl (lv_at hl 0 rfl) ?_
    refine gf_2_8 C h ka0 iz_X2 (List.mem_cons_of_mem _ wd_5_10) dX2_draw_25 ?_
    refine lv_iconst (v := 3) hx hb dX2_draw_28 (by decide) ?_
    refine lv_icmp_ne (tgt := 55) hx hb dX2_draw_29 (by decide) (fun c2 => ?_) (fun c2 => ?_)
    · have hF := it_f hF c2
      refine lv_iconst (v := 0) hx hb dX2_draw_55 (by decide) ?_
      exact bz_iret C h hlocks hr hF dX2_draw_56
    · have hF := it_t hF c2
      refine lv_aload_n hx hb dX2_draw_32 rfl (lv_at hl 0 rfl) ?_
      refine gf_2_10 C h ka0 iz_X2 (List.mem_cons_of_mem _ wd_5_12) dX2_draw_33 ?_
      refine lv_if_ne (tgt := 46) hx hb dX2_draw_36 (by decide) (fun c3 => ?_) (fun c3 => ?_)
      · have hF := it_f hF c3
        refine lv_aload_n hx hb dX2_draw_46 rfl (lv_at hl 0 rfl) ?_
        refine gf_2_2 C h ka0 iz_X2 (List.mem_cons_of_mem _ wd_5_4) dX2_draw_47 ?_
        refine lv_iconst (v := 3) hx hb dX2_draw_50 (by decide) ?_
        refine lv_imul hx hb dX2_draw_51 ?_
        refine lv_iconst (v := 2) hx hb dX2_draw_52 (by decide) ?_
        refine lv_idiv hx hb dX2_draw_53 (by decide) ?_
        exact bz_iret C h hlocks hr hF dX2_draw_54
      · have hF := it_t hF c3
        refine lv_aload_n hx hb dX2_draw_39 rfl (lv_at hl 0 rfl) ?_
        refine gf_2_2 C h ka0 iz_X2 (List.mem_cons_of_mem _ wd_5_4) dX2_draw_40 ?_
        refine lv_goto (tgt := 54) hx hb dX2_draw_43 (by decide) ?_
        exact bz_iret C h hlocks hr hF dX2_draw_54
  · have hF := it_t hF c1
    refine lv_aload_n hx hb dX2_draw_8 rfl (lv_at hl 0 rfl) ?_
    obtain ⟨r4, σ5, qr4, hF⟩ := bd_u hF
    refine bz_callV (rest := []) (st1 := [.int r4]) C h (As := []) (o := some (.int r4)) (τ := σ5) (c_X2_peak (l := l) ka0 (res := (r4, σ5)) qr4) ka0 (by decide) (ci := 2) rfl (cwV 0 hts (bz_gV wd_17_9 wd_17_10 wd_17_11 wd_2_11 wd_17_12) rfl rfl rfl (by decide +kernel) ⟨Nat.le_of_ble_eq_true rfl, Nat.le_of_ble_eq_true rfl⟩) rfl hl.1 rfl (by decide) ⟨Nat.le_of_ble_eq_true rfl, Nat.le_of_ble_eq_true rfl⟩ dX2_draw_9 rfl (fun H locs h => ?_)
    refine lv_aload_n hx hb dX2_draw_12 rfl (lv_at hl 0 rfl) ?_
    refine gf_2_3 C h ka0 iz_X2 (List.mem_cons_of_mem _ wd_5_5) dX2_draw_13 ?_
    refine lv_aload_n hx hb dX2_draw_16 rfl (lv_at hl 0 rfl) ?_
    refine gf_2_11 C h ka0 iz_X2 (List.mem_cons_of_mem _ wd_5_13) dX2_draw_17 ?_
    obtain ⟨r6, σ7, qr6, hF⟩ := bd_u hF
    refine bz_callN (rest := []) (st1 := [.int r6]) C h (As := [.int r4, .int (σ5.1 a0 3), .int (σ5.1 a0 11)]) (o := some (.int r6)) (τ := σ7) (c_X6_rampCurrent (l := l)  (res := (r6, σ7)) qr6) ⟨va_cnB 3 hts (bz_g0 wd_17_14) rfl rfl rfl (C.2.2.2.2.2.1.2.1.2.1) (hts _ (List.mem_cons_of_mem _ wd_1_2)) (by decide +kernel) ⟨Nat.le_of_ble_eq_true rfl, Nat.le_of_ble_eq_true rfl⟩, hts _ (List.mem_cons_of_mem _ wd_17_13), trivial⟩ rfl hl.1 rfl (by decide) ⟨Nat.le_of_ble_eq_true rfl, Nat.le_of_ble_eq_true rfl⟩ dX2_draw_20 rfl (fun H locs h => ?_)
    exact bz_iret C h hlocks hr hF dX2_draw_23
