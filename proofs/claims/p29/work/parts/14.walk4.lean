set_option maxHeartbeats 4000000 in
set_option maxRecDepth 100000 in
theorem c_X6_startFirstThatCan {l : Launch} {G : bz_G} {σ : bz_W} {a0 : Nat} (ka0 : bz_k G a0 = (7, 0)) {res : Int32 × bz_W} (hF : f_X6_startFirstThatCan σ a0 = some res) : bz_M l yX6_startFirstThatCan wz_X6_startFirstThatCan 4 86 G σ [.ref a0] (some (.int res.1)) res.2 := by
  refine bz_mk (cc := cX6_startFirstThatCan) (maxL := 4) (ret := (some .boolean)) (own := RX6) (by decide) rfl rfl (Nat.le_of_ble_eq_true rfl) ?_
  intro p e s m args below meth c ls C hlocks hr h hl
  have hx := C.1
  have hb := C.2.1
  have hts := C.2.2.2.2.1
  have hl : lv_has ls 4 [(0, .ref a0)] := hl
  obtain ⟨H, eH⟩ : ∃ y, y = s.heap := ⟨_, rfl⟩
  obtain ⟨locs, el⟩ : ∃ y : List Loc, y = [] := ⟨_, rfl⟩
  rw [← el, ← eH] at h ⊢
  unfold f_X6_startFirstThatCan at hF
  refine lv_aload_n hx hb dX6_startFirstThatCan_0 rfl (lv_at hl 0 rfl) ?_
  obtain ⟨r1, σ2, qr1, hF⟩ := bd_u hF
  refine bz_callV (rest := []) (st1 := [.int r1]) C h (As := []) (o := some (.int r1)) (τ := σ2) (c_X6_fillLine (l := l) ka0 (res := (r1, σ2)) qr1) ka0 (by decide) (ci := 6) rfl (cwV 0 hts (bz_gV wd_7_5 wd_7_6 wd_7_7 wd_1_2 wd_7_8) rfl rfl rfl (by decide +kernel) ⟨Nat.le_of_ble_eq_true rfl, Nat.le_of_ble_eq_true rfl⟩) rfl hl.1 rfl (by decide) ⟨Nat.le_of_ble_eq_true rfl, Nat.le_of_ble_eq_true rfl⟩ dX6_startFirstThatCan_1 rfl (fun H locs h => ?_)
  refine lv_istore_n (lv' := [(1, .int r1), (0, .ref a0)]) hx hb dX6_startFirstThatCan_4 rfl hl (by decide) rfl (fun ls hl => ?_)
  refine lv_iconst (v := 0) hx hb dX6_startFirstThatCan_5 (by decide) ?_
  refine lv_istore_n (lv' := [(2, .int 0), (1, .int r1), (0, .ref a0)]) hx hb dX6_startFirstThatCan_6 rfl hl (by decide) rfl (fun ls hl => ?_)
  refine L_X6_startFirstThatCan_L7 C hlocks hr ka0 _ _ _ H locs ls hF h (lv_sub hl [2, 1, 0] rfl) ?_
  intro σ24 H locs ls hF h hl
  refine lv_iconst (v := 0) hx hb dX6_startFirstThatCan_80 (by decide) ?_
  exact bz_zret C h hlocks hr (by decide) hF dX6_startFirstThatCan_81
set_option maxHeartbeats 4000000 in
set_option maxRecDepth 100000 in
theorem L_X6_heatMotors_L2 {p : Program} {l : Launch} {e : Env} {s : State} {m : MethodId} {args : Array Value} {below : List Frame} {meth : Method} {c : Code} {G : bz_G} (C : bz_C p s m c args cX6_heatMotors 3 RX6 wz_X6_heatMotors G) (hlocks : meth.locks = false) (hr : meth.sig.returnType = none) {a0 : Nat} (ka0 : bz_k G a0 = (7, 0)) {k : bz_W → Option (Int32 × bz_W)} {res : Int32 × bz_W} : ∀ (n : Nat) (v1 : Int32) (σ : bz_W) (H : Heap) (locs : List Loc) (ls : Array Slot), f_X6_heatMotors_L2 a0 k n v1 σ = some res → bz_H G s σ H locs → lv_has ls 3 [(0, .ref a0), (1, .int v1)] → (∀ (σ : bz_W) (H : Heap) (locs : List Loc) (ls : Array Slot), k σ = some res → bz_H G s σ H locs → lv_has ls 3 [] → W p l e ({ frames := 3, cells := 0, slots := 0, locals := 68 } : Room) s m args below meth c H locs 0 0 (MQ below (bz_Qc G none res.2) args s 0 0 (bz_A G)) (F0 m 56 ls [])) → W p l e ({ frames := 3, cells := 0, slots := 0, locals := 68 } : Room) s m args below meth c H locs 0 0 (MQ below (bz_Qc G none res.2) args s 0 0 (bz_A G)) (F0 m 2 ls []) := by
  have hx := C.1
  have hb := C.2.1
  have hts := C.2.2.2.2.1
  intro n
  induction n with
  | zero =>
    intro v1 σ H locs ls hF
    exact absurd hF (by simp [f_X6_heatMotors_L2])
  | succ n ih =>
    intro v1 σ H locs ls hF h hl hk
    rw [f_X6_heatMotors_L2] at hF
    refine lv_iload_n hx hb dX6_heatMotors_2 rfl (lv_at hl 1 rfl) ?_
    refine lv_aload_n hx hb dX6_heatMotors_3 rfl (lv_at hl 0 rfl) ?_
    refine gf_6_0 C h ka0 iz_X6 (List.mem_cons_of_mem _ wd_1_12) dX6_heatMotors_4 (fun k1 => ?_)
    refine gf_3_3 C h k1 iz_X3 (List.mem_cons_of_mem _ wd_7_9) dX6_heatMotors_7 ?_
    refine lv_icmp_ge (tgt := 56) hx hb dX6_heatMotors_10 (by decide) (fun c2 => ?_) (fun c2 => ?_)
    · have hF := it_t hF c2
      exact hk _ H locs ls hF h (lv_sub hl [] rfl)
    · have hF := it_f hF c2
      refine lv_aload_n hx hb dX6_heatMotors_13 rfl (lv_at hl 0 rfl) ?_
      refine gf_6_0 C h ka0 iz_X6 (List.mem_cons_of_mem _ wd_1_12) dX6_heatMotors_14 (fun k3 => ?_)
      refine gf_3_0 C h k3 iz_X3 (List.mem_cons_of_mem _ wd_7_10) dX6_heatMotors_17 (fun k4 => ?_)
      refine lv_iload_n hx hb dX6_heatMotors_20 rfl (lv_at hl 1 rfl) ?_
      obtain ⟨c5, hF⟩ := ck_u hF
      refine bz_aaldm C h k4 c5 (kx := v1.toNatClampNeg) rfl dX6_heatMotors_21 (fun k6 => ?_)
      refine lv_astore_n (lv' := [(2, .ref (σ.2 (σ.2 (σ.2 a0 0) 0) v1.toNatClampNeg)), (0, .ref a0), (1, .int v1)]) hx hb dX6_heatMotors_22 rfl hl (by decide) rfl (fun ls hl => ?_)
      refine lv_aload_n hx hb dX6_heatMotors_23 rfl (lv_at hl 0 rfl) ?_
      obtain ⟨r7, σ8, qr7, hF⟩ := bd_u hF
      refine bz_callV (rest := []) (st1 := []) C h (As := []) (o := none) (τ := σ8) (c_X2_countSecond (l := l) k6 (res := (r7, σ8)) qr7) k6 (by decide) (ci := 2) rfl (cwV 0 hts (bz_gV wd_19_14 wd_19_15 wd_19_16 wd_2_11 wd_19_17) rfl rfl rfl (by decide +kernel) ⟨Nat.le_of_ble_eq_true rfl, Nat.le_of_ble_eq_true rfl⟩) rfl hl.1 rfl (by decide) ⟨Nat.le_of_ble_eq_true rfl, Nat.le_of_ble_eq_true rfl⟩ dX6_heatMotors_24 rfl (fun H locs h => ?_)
      refine lv_aload_n hx hb dX6_heatMotors_27 rfl (lv_at hl 0 rfl) ?_
      refine lv_aload_n hx hb dX6_heatMotors_28 rfl (lv_at hl 1 rfl) ?_
      refine gf_6_0 C h ka0 iz_X6 (List.mem_cons_of_mem _ wd_1_12) dX6_heatMotors_29 (fun k9 => ?_)
      refine gf_3_6 C h k9 iz_X3 (List.mem_cons_of_mem _ wd_8_10) dX6_heatMotors_32 ?_
      obtain ⟨r10, σ11, qr10, hF⟩ := bd_u hF
      refine bz_callV (rest := []) (st1 := []) C h (As := [.int (σ8.1 (σ8.2 a0 0) 6)]) (o := none) (τ := σ11) (c_X2_exchangeHeat (l := l) k6 (res := (r10, σ11)) qr10) k6 (by decide) (ci := 2) rfl (cwV 1 hts (bz_gV wd_19_22 wd_19_23 wd_20_0 wd_2_11 wd_20_1) rfl rfl rfl (by decide +kernel) ⟨Nat.le_of_ble_eq_true rfl, Nat.le_of_ble_eq_true rfl⟩) rfl hl.1 rfl (by decide) ⟨Nat.le_of_ble_eq_true rfl, Nat.le_of_ble_eq_true rfl⟩ dX6_heatMotors_35 rfl (fun H locs h => ?_)
      refine lv_aload_n hx hb dX6_heatMotors_38 rfl (lv_at hl 1 rfl) ?_
      refine gf_6_0 C h ka0 iz_X6 (List.mem_cons_of_mem _ wd_1_12) dX6_heatMotors_39 (fun k12 => ?_)
      refine lv_aload_n hx hb dX6_heatMotors_42 rfl (lv_at hl 0 rfl) ?_
      refine lv_aload_n hx hb dX6_heatMotors_43 rfl (lv_at hl 0 rfl) ?_
      obtain ⟨r13, σ14, qr13, hF⟩ := bd_u hF
      refine bz_callV (rest := [.ref (σ.2 (σ.2 (σ.2 a0 0) 0) v1.toNatClampNeg), .ref (σ11.2 a0 0)]) (st1 := [.int r13, .ref (σ.2 (σ.2 (σ.2 a0 0) 0) v1.toNatClampNeg), .ref (σ11.2 a0 0)]) C h (As := []) (o := some (.int r13)) (τ := σ14) (c_X2_endSecond (l := l) k6 (res := (r13, σ14)) qr13) k6 (by decide) (ci := 2) rfl (cwV 0 hts (bz_gV wd_20_7 wd_20_8 wd_20_9 wd_2_11 wd_20_10) rfl rfl rfl (by decide +kernel) ⟨Nat.le_of_ble_eq_true rfl, Nat.le_of_ble_eq_true rfl⟩) rfl hl.1 rfl (Nat.le_of_ble_eq_true rfl) ⟨Nat.le_of_ble_eq_true rfl, Nat.le_of_ble_eq_true rfl⟩ dX6_heatMotors_44 rfl (fun H locs h => ?_)
      obtain ⟨r15, σ16, qr15, hF⟩ := bd_u hF
      refine bz_callV (rest := []) (st1 := []) C h (As := [.ref (σ.2 (σ.2 (σ.2 a0 0) 0) v1.toNatClampNeg), .int r13]) (o := none) (τ := σ16) (c_X3_note (l := l) k12 k6 (res := (r15, σ16)) qr15) k12 (by decide) (ci := 3) rfl (cwV 2 hts (bz_gV wd_9_19 wd_9_20 wd_9_21 wd_1_11 wd_9_22) rfl rfl rfl (by decide +kernel) ⟨Nat.le_of_ble_eq_true rfl, Nat.le_of_ble_eq_true rfl⟩) rfl hl.1 rfl (by decide) ⟨Nat.le_of_ble_eq_true rfl, Nat.le_of_ble_eq_true rfl⟩ dX6_heatMotors_47 rfl (fun H locs h => ?_)
      obtain ⟨x17, ex17⟩ : ∃ y : Int32, y = v1 + 1 := ⟨_, rfl⟩
      have hF := lt_u hF x17 ex17
      refine lv_iinc (v := x17) (lv' := [(1, .int x17), (2, .ref (σ.2 (σ.2 (σ.2 a0 0) 0) v1.toNatClampNeg)), (0, .ref a0)]) hx hb dX6_heatMotors_50 hl (k := 2) rfl (by rw [ex17]; rfl) (by decide) rfl (fun ls hl => ?_)
      refine lv_goto (tgt := 2) hx hb dX6_heatMotors_53 (by decide) ?_
      exact ih _ _ H locs ls hF h (lv_sub hl [2, 0] rfl) hk
set_option maxHeartbeats 4000000 in
set_option maxRecDepth 100000 in
theorem c_X6_heatMotors {l : Launch} {G : bz_G} {σ : bz_W} {a0 : Nat} (ka0 : bz_k G a0 = (7, 0)) {res : Int32 × bz_W} (hF : f_X6_heatMotors σ a0 = some res) : bz_M l yX6_heatMotors wz_X6_heatMotors 3 68 G σ [.ref a0] none res.2 := by
  refine bz_mk (cc := cX6_heatMotors) (maxL := 3) (ret := none) (own := RX6) (by decide) rfl rfl (Nat.le_of_ble_eq_true rfl) ?_
  intro p e s m args below meth c ls C hlocks hr h hl
  have hx := C.1
  have hb := C.2.1
  have hts := C.2.2.2.2.1
  have hl : lv_has ls 3 [(0, .ref a0)] := hl
  obtain ⟨H, eH⟩ : ∃ y, y = s.heap := ⟨_, rfl⟩
  obtain ⟨locs, el⟩ : ∃ y : List Loc, y = [] := ⟨_, rfl⟩
  rw [← el, ← eH] at h ⊢
  unfold f_X6_heatMotors at hF
  refine lv_iconst (v := 0) hx hb dX6_heatMotors_0 (by decide) ?_
  refine lv_istore_n (lv' := [(1, .int 0), (0, .ref a0)]) hx hb dX6_heatMotors_1 rfl hl (by decide) rfl (fun ls hl => ?_)
  refine L_X6_heatMotors_L2 C hlocks hr ka0 _ _ _ H locs ls hF h (lv_sub hl [1, 0] rfl) ?_
  intro σ18 H locs ls hF h hl
  exact bz_vret C h hlocks hr hF dX6_heatMotors_56
set_option maxHeartbeats 4000000 in
set_option maxRecDepth 100000 in
theorem L_X6_pass_L28 {p : Program} {l : Launch} {e : Env} {s : State} {m : MethodId} {args : Array Value} {below : List Frame} {meth : Method} {c : Code} {G : bz_G} (C : bz_C p s m c args cX6_pass 4 RX6 wz_X6_pass G) (hlocks : meth.locks = false) (hr : meth.sig.returnType = (some .int)) {a0 : Nat} {a1 : Int32} (ka0 : bz_k G a0 = (7, 0)) {k : Int32 → bz_W → Option (Int32 × bz_W)} {res : Int32 × bz_W} : ∀ (n : Nat) (v2 : Int32) (v3 : Int32) (σ : bz_W) (H : Heap) (locs : List Loc) (ls : Array Slot), f_X6_pass_L28 a0 a1 k n v2 v3 σ = some res → bz_H G s σ H locs → lv_has ls 4 [(0, .ref a0), (1, .int a1), (2, .int v2), (3, .int v3)] → (∀ (w2 : Int32) (σ : bz_W) (H : Heap) (locs : List Loc) (ls : Array Slot), k w2 σ = some res → bz_H G s σ H locs → lv_has ls 4 [(2, .int w2)] → W p l e ({ frames := 7, cells := 0, slots := 0, locals := 161 } : Room) s m args below meth c H locs 0 0 (MQ below (bz_Qc G (some (.int res.1)) res.2) args s 0 0 (bz_A G)) (F0 m 70 ls [])) → W p l e ({ frames := 7, cells := 0, slots := 0, locals := 161 } : Room) s m args below meth c H locs 0 0 (MQ below (bz_Qc G (some (.int res.1)) res.2) args s 0 0 (bz_A G)) (F0 m 28 ls []) := by
  have hx := C.1
  have hb := C.2.1
  have hts := C.2.2.2.2.1
  intro n
  induction n with
  | zero =>
    intro v2 v3 σ H locs ls hF
    exact absurd hF (by simp [f_X6_pass_L28])
  | succ n ih =>
    intro v2 v3 σ H locs ls hF h hl hk
    rw [f_X6_pass_L28] at hF
    refine lv_iload_n hx hb dX6_pass_28 rfl (lv_at hl 3 rfl) ?_
    refine lv_iload_n hx hb dX6_pass_29 rfl (lv_at hl 1 rfl) ?_
    refine lv_icmp_ge (tgt := 70) hx hb dX6_pass_30 (by decide) (fun c8 => ?_) (fun c8 => ?_)
    · have hF := it_t hF c8
      exact hk _ _ H locs ls hF h (lv_sub hl [2] rfl)
    · have hF := it_f hF c8
      refine lv_aload_n hx hb dX6_pass_33 rfl (lv_at hl 0 rfl) ?_
      obtain ⟨r9, σ10, qr9, hF⟩ := bd_u hF
      refine bz_callV (rest := []) (st1 := []) C h (As := []) (o := none) (τ := σ10) (c_X6_carryOutDueItems (l := l) ka0 (res := (r9, σ10)) qr9) ka0 (by decide) (ci := 6) rfl (cwV 0 hts (bz_gV wd_17_19 wd_17_20 wd_17_21 wd_1_2 wd_17_22) rfl rfl rfl (by decide +kernel) ⟨Nat.le_of_ble_eq_true rfl, Nat.le_of_ble_eq_true rfl⟩) rfl hl.1 rfl (by decide) ⟨Nat.le_of_ble_eq_true rfl, Nat.le_of_ble_eq_true rfl⟩ dX6_pass_34 rfl (fun H locs h => ?_)
      refine lv_aload_n hx hb dX6_pass_37 rfl (lv_at hl 0 rfl) ?_
      obtain ⟨r11, σ12, qr11, hF⟩ := bd_u hF
      refine bz_callV (rest := []) (st1 := [.int r11]) C h (As := []) (o := some (.int r11)) (τ := σ12) (c_X6_startFirstThatCan (l := l) ka0 (res := (r11, σ12)) qr11) ka0 (by decide) (ci := 6) rfl (cwV 0 hts (bz_gV wd_18_9 wd_18_10 wd_18_11 wd_1_2 wd_18_12) rfl rfl rfl (by decide +kernel) ⟨Nat.le_of_ble_eq_true rfl, Nat.le_of_ble_eq_true rfl⟩) rfl hl.1 rfl (by decide) ⟨Nat.le_of_ble_eq_true rfl, Nat.le_of_ble_eq_true rfl⟩ dX6_pass_38 rfl (fun H locs h => ?_)
      obtain ⟨j15, ej15, hF⟩ := lt_j hF
      have hj15 : ∀ (x13 : Int32) (σ14 : bz_W) (H : Heap) (locs : List Loc) (ls : Array Slot), j15 x13 σ14 = some res → bz_H G s σ14 H locs → lv_has ls 4 [(0, .ref a0), (1, .int a1), (2, .int x13), (3, .int v3)] → W p l e ({ frames := 7, cells := 0, slots := 0, locals := 161 } : Room) s m args below meth c H locs 0 0 (MQ below (bz_Qc G (some (.int res.1)) res.2) args s 0 0 (bz_A G)) (F0 m 47 ls []) := by
          intro x13 σ14 H locs ls hF h hl
          subst ej15
          refine lv_aload_n hx hb dX6_pass_47 rfl (lv_at hl 0 rfl) ?_
          obtain ⟨r16, σ17, qr16, hF⟩ := bd_u hF
          refine bz_callV (rest := []) (st1 := []) C h (As := []) (o := none) (τ := σ17) (c_X6_heatMotors (l := l) ka0 (res := (r16, σ17)) qr16) ka0 (by decide) (ci := 6) rfl (cwV 0 hts (bz_gV wd_19_10 wd_19_11 wd_19_12 wd_1_2 wd_19_13) rfl rfl rfl (by decide +kernel) ⟨Nat.le_of_ble_eq_true rfl, Nat.le_of_ble_eq_true rfl⟩) rfl hl.1 rfl (by decide) ⟨Nat.le_of_ble_eq_true rfl, Nat.le_of_ble_eq_true rfl⟩ dX6_pass_48 rfl (fun H locs h => ?_)
          refine lv_aload_n hx hb dX6_pass_51 rfl (lv_at hl 0 rfl) ?_
          refine gf_6_0 C h ka0 iz_X6 (List.mem_cons_of_mem _ wd_1_12) dX6_pass_52 (fun k18 => ?_)
          refine lv_dup hx hb dX6_pass_55 rfl ?_
          refine gf_3_4 C h k18 iz_X3 (List.mem_cons_of_mem _ wd_6_15) dX6_pass_56 ?_
          refine lv_iconst (v := 1) hx hb dX6_pass_59 (by decide) ?_
          refine lv_iadd hx hb dX6_pass_60 ?_
          refine pf_3_4 C h k18 iz_X3 (List.mem_cons_of_mem _ wd_6_15) dX6_pass_61 (fun H locs h => ?_)
          obtain ⟨σ19, eσ19⟩ : ∃ y : bz_W, y = bz_wi σ17 (σ17.2 a0 0) 4 ((σ17.1 (σ17.2 a0 0) 4) + 1) := ⟨_, rfl⟩
          rw [← eσ19] at h
          have hF := lt_u hF σ19 eσ19
          obtain ⟨x20, ex20⟩ : ∃ y : Int32, y = v3 + 1 := ⟨_, rfl⟩
          have hF := lt_u hF x20 ex20
          refine lv_iinc (v := x20) (lv' := [(3, .int x20), (0, .ref a0), (1, .int a1), (2, .int x13)]) hx hb dX6_pass_64 hl (k := 3) rfl (by rw [ex20]; rfl) (by decide) rfl (fun ls hl => ?_)
          refine lv_goto (tgt := 28) hx hb dX6_pass_67 (by decide) ?_
          exact ih _ _ _ H locs ls hF h (lv_sub hl [1, 2, 3, 0] rfl) hk
      refine lv_if_eq (tgt := 47) hx hb dX6_pass_41 (by decide) (fun c21 => ?_) (fun c21 => ?_)
      · have hF := it_t hF c21
        exact hj15 _ _ H locs ls hF h (lv_sub hl [0, 1, 2, 3] rfl)
      · have hF := it_f hF c21
        obtain ⟨x22, ex22⟩ : ∃ y : Int32, y = v2 + 1 := ⟨_, rfl⟩
        have hF := lt_u hF x22 ex22
        refine lv_iinc (v := x22) (lv' := [(2, .int x22), (0, .ref a0), (1, .int a1), (3, .int v3)]) hx hb dX6_pass_44 hl (k := 2) rfl (by rw [ex22]; rfl) (by decide) rfl (fun ls hl => ?_)
        exact hj15 _ _ H locs ls hF h (lv_sub hl [1, 2, 0, 3] rfl)
set_option maxHeartbeats 4000000 in
set_option maxRecDepth 100000 in
theorem c_X6_pass {l : Launch} {G : bz_G} {σ : bz_W} {a0 : Nat} {x1_ : Int32} (ka0 : bz_k G a0 = (7, 0)) {res : Int32 × bz_W} (hF : f_X6_pass σ a0 x1_ = some res) : bz_M l yX6_pass wz_X6_pass 7 161 G σ [.ref a0, .int x1_] (some (.int res.1)) res.2 := by
  refine bz_mk (cc := cX6_pass) (maxL := 4) (ret := (some .int)) (own := RX6) (by decide) rfl rfl (Nat.le_of_ble_eq_true rfl) ?_
  intro p e s m args below meth c ls C hlocks hr h hl
  have hx := C.1
  have hb := C.2.1
  have hts := C.2.2.2.2.1
  have hl : lv_has ls 4 [(0, .ref a0), (1, .int x1_)] := hl
  obtain ⟨H, eH⟩ : ∃ y, y = s.heap := ⟨_, rfl⟩
  obtain ⟨locs, el⟩ : ∃ y : List Loc, y = [] := ⟨_, rfl⟩
  rw [← el, ← eH] at h ⊢
  unfold f_X6_pass at hF
  refine lv_iload_n hx hb dX6_pass_0 rfl (lv_at hl 1 rfl) ?_
  refine lv_iconst (v := 1) hx hb dX6_pass_1 (by decide) ?_
  refine lv_bipush (v := 60) hx hb dX6_pass_2 (by decide) ?_
  obtain ⟨r1, σ2, qr1, hF⟩ := bd_u hF
  refine bz_callS (rest := []) (st1 := [.int r1]) C h (As := [.int x1_, .int 1, .int 60]) (o := some (.int r1)) (τ := σ2) (c_X6_isOutside (l := l)  (res := (r1, σ2)) qr1) (va_cwS 3 hts (bz_gS wd_9_1 wd_9_2 wd_1_2 wd_9_3) rfl rfl rfl (by decide +kernel) ⟨Nat.le_of_ble_eq_true rfl, Nat.le_of_ble_eq_true rfl⟩) rfl hl.1 rfl (by decide) ⟨Nat.le_of_ble_eq_true rfl, Nat.le_of_ble_eq_true rfl⟩ dX6_pass_4 rfl (fun H locs h => ?_)
  refine lv_if_eq (tgt := 13) hx hb dX6_pass_7 (by decide) (fun c3 => ?_) (fun c3 => ?_)
  · have hF := it_t hF c3
    refine lv_aload_n hx hb dX6_pass_13 rfl (lv_at hl 0 rfl) ?_
    refine gf_6_1 C h ka0 iz_X6 (List.mem_cons_of_mem _ wd_1_16) dX6_pass_14 (fun k4 => ?_)
    refine lv_aload_n hx hb dX6_pass_17 rfl (lv_at hl 0 rfl) ?_
    refine gf_6_0 C h ka0 iz_X6 (List.mem_cons_of_mem _ wd_1_12) dX6_pass_18 (fun k5 => ?_)
    obtain ⟨r6, σ7, qr6, hF⟩ := bd_u hF
    refine bz_callV (rest := []) (st1 := []) C h (As := [.ref (σ2.2 a0 0)]) (o := none) (τ := σ7) (c_X1_record (l := l) k4 k5 (res := (r6, σ7)) qr6) k4 (by decide) (ci := 1) rfl (cwV 1 hts (bz_gV wd_6_16 wd_6_17 wd_6_18 wd_1_15 wd_6_19) rfl rfl rfl (by decide +kernel) ⟨Nat.le_of_ble_eq_true rfl, Nat.le_of_ble_eq_true rfl⟩) rfl hl.1 rfl (by decide) ⟨Nat.le_of_ble_eq_true rfl, Nat.le_of_ble_eq_true rfl⟩ dX6_pass_21 rfl (fun H locs h => ?_)
    refine lv_iconst (v := 0) hx hb dX6_pass_24 (by decide) ?_
    refine lv_istore_n (lv' := [(2, .int 0), (0, .ref a0), (1, .int x1_)]) hx hb dX6_pass_25 rfl hl (by decide) rfl (fun ls hl => ?_)
    refine lv_iconst (v := 0) hx hb dX6_pass_26 (by decide) ?_
    refine lv_istore_n (lv' := [(3, .int 0), (2, .int 0), (0, .ref a0), (1, .int x1_)]) hx hb dX6_pass_27 rfl hl (by decide) rfl (fun ls hl => ?_)
    refine L_X6_pass_L28 C hlocks hr ka0 _ _ _ _ H locs ls hF h (lv_sub hl [2, 3, 1, 0] rfl) ?_
    intro x23 σ24 H locs ls hF h hl
    refine lv_iload_n hx hb dX6_pass_70 rfl (lv_at hl 0 rfl) ?_
    exact bz_iret C h hlocks hr hF dX6_pass_71
  · have hF := it_f hF c3
    refine lv_bipush (v := (-2)) hx hb dX6_pass_10 (by decide) ?_
    exact bz_iret C h hlocks hr hF dX6_pass_12
set_option maxHeartbeats 4000000 in
set_option maxRecDepth 100000 in
theorem c_X6_readTimetable {l : Launch} {G : bz_G} {σ : bz_W} {a0 : Nat} (ka0 : bz_k G a0 = (7, 0)) {res : Int32 × bz_W} (hF : f_X6_readTimetable σ a0 = some res) : bz_M l yX6_readTimetable wz_X6_readTimetable 9 209 G σ [.ref a0] (some (.int res.1)) res.2 := by
  refine bz_mk (cc := cX6_readTimetable) (maxL := 1) (ret := (some .int)) (own := RX6) (by decide) rfl rfl (Nat.le_of_ble_eq_true rfl) ?_
  intro p e s m args below meth c ls C hlocks hr h hl
  have hx := C.1
  have hb := C.2.1
  have hts := C.2.2.2.2.1
  have hl : lv_has ls 1 [(0, .ref a0)] := hl
  obtain ⟨H, eH⟩ : ∃ y, y = s.heap := ⟨_, rfl⟩
  obtain ⟨locs, el⟩ : ∃ y : List Loc, y = [] := ⟨_, rfl⟩
  rw [← el, ← eH] at h ⊢
  unfold f_X6_readTimetable at hF
  refine lv_aload_n hx hb dX6_readTimetable_0 rfl (lv_at hl 0 rfl) ?_
  refine gf_6_4 C h ka0 iz_X6 (List.mem_cons_of_mem _ wd_1_21) dX6_readTimetable_1 (fun k1 => ?_)
  refine lv_aload_n hx hb dX6_readTimetable_4 rfl (lv_at hl 0 rfl) ?_
  refine gf_6_5 C h ka0 iz_X6 (List.mem_cons_of_mem _ wd_2_1) dX6_readTimetable_5 (fun k2 => ?_)
  refine lv_aload_n hx hb dX6_readTimetable_8 rfl (lv_at hl 0 rfl) ?_
  refine gf_6_0 C h ka0 iz_X6 (List.mem_cons_of_mem _ wd_1_12) dX6_readTimetable_9 (fun k3 => ?_)
  refine gf_3_4 C h k3 iz_X3 (List.mem_cons_of_mem _ wd_6_15) dX6_readTimetable_12 ?_
  obtain ⟨r4, σ5, qr4, hF⟩ := bd_u hF
  refine bz_callV (rest := []) (st1 := [.int r4]) C h (As := [.ref (σ.2 a0 5), .int (σ.1 (σ.2 a0 0) 4)]) (o := some (.int r4)) (τ := σ5) (c_X5_readInto (l := l) k1 k2 (res := (r4, σ5)) qr4) k1 (by decide) (ci := 5) rfl (cwV 2 hts (bz_gV wd_11_15 wd_11_16 wd_11_17 wd_1_20 wd_11_18) rfl rfl rfl (by decide +kernel) ⟨Nat.le_of_ble_eq_true rfl, Nat.le_of_ble_eq_true rfl⟩) rfl hl.1 rfl (by decide) ⟨Nat.le_of_ble_eq_true rfl, Nat.le_of_ble_eq_true rfl⟩ dX6_readTimetable_15 rfl (fun H locs h => ?_)
  refine lv_if_ne (tgt := 32) hx hb dX6_readTimetable_18 (by decide) (fun c6 => ?_) (fun c6 => ?_)
  · have hF := it_f hF c6
    refine lv_aload_n hx hb dX6_readTimetable_32 rfl (lv_at hl 0 rfl) ?_
    refine gf_6_1 C h ka0 iz_X6 (List.mem_cons_of_mem _ wd_1_16) dX6_readTimetable_33 (fun k7 => ?_)
    refine lv_aload_n hx hb dX6_readTimetable_36 rfl (lv_at hl 0 rfl) ?_
    refine gf_6_0 C h ka0 iz_X6 (List.mem_cons_of_mem _ wd_1_12) dX6_readTimetable_37 (fun k8 => ?_)
    obtain ⟨r9, σ10, qr9, hF⟩ := bd_u hF
    refine bz_callV (rest := []) (st1 := []) C h (As := [.ref (σ5.2 a0 0)]) (o := none) (τ := σ10) (c_X1_record (l := l) k7 k8 (res := (r9, σ10)) qr9) k7 (by decide) (ci := 1) rfl (cwV 1 hts (bz_gV wd_6_16 wd_6_17 wd_6_18 wd_1_15 wd_6_19) rfl rfl rfl (by decide +kernel) ⟨Nat.le_of_ble_eq_true rfl, Nat.le_of_ble_eq_true rfl⟩) rfl hl.1 rfl (by decide) ⟨Nat.le_of_ble_eq_true rfl, Nat.le_of_ble_eq_true rfl⟩ dX6_readTimetable_40 rfl (fun H locs h => ?_)
    refine lv_aload_n hx hb dX6_readTimetable_43 rfl (lv_at hl 0 rfl) ?_
    refine gf_6_0 C h ka0 iz_X6 (List.mem_cons_of_mem _ wd_1_12) dX6_readTimetable_44 (fun k11 => ?_)
    refine gf_3_1 C h k11 iz_X3 (List.mem_cons_of_mem _ wd_11_14) dX6_readTimetable_47 (fun k12 => ?_)
    refine lv_aload_n hx hb dX6_readTimetable_50 rfl (lv_at hl 0 rfl) ?_
    refine gf_6_5 C h ka0 iz_X6 (List.mem_cons_of_mem _ wd_2_1) dX6_readTimetable_51 (fun k13 => ?_)
    obtain ⟨r14, σ15, qr14, hF⟩ := bd_u hF
    refine bz_callV (rest := []) (st1 := []) C h (As := [.ref (σ10.2 a0 5)]) (o := none) (τ := σ15) (c_X4_copyFrom (l := l) k12 k13 (res := (r14, σ15)) qr14) k12 (by decide) (ci := 4) rfl (cwV 1 hts (bz_gV wd_15_21 wd_5_22 wd_5_23 wd_2_0 wd_6_0) rfl rfl rfl (by decide +kernel) ⟨Nat.le_of_ble_eq_true rfl, Nat.le_of_ble_eq_true rfl⟩) rfl hl.1 rfl (by decide) ⟨Nat.le_of_ble_eq_true rfl, Nat.le_of_ble_eq_true rfl⟩ dX6_readTimetable_54 rfl (fun H locs h => ?_)
    refine lv_aload_n hx hb dX6_readTimetable_57 rfl (lv_at hl 0 rfl) ?_
    refine gf_6_5 C h ka0 iz_X6 (List.mem_cons_of_mem _ wd_2_1) dX6_readTimetable_58 (fun k16 => ?_)
    obtain ⟨r17, σ18, qr17, hF⟩ := bd_u hF
    refine bz_callV (rest := []) (st1 := [.int r17]) C h (As := []) (o := some (.int r17)) (τ := σ18) (c_X4_left (l := l) k16 (res := (r17, σ18)) qr17) k16 (by decide) (ci := 4) rfl (cwV 0 hts (bz_gV wd_15_22 wd_15_23 wd_16_0 wd_2_0 wd_16_1) rfl rfl rfl (by decide +kernel) ⟨Nat.le_of_ble_eq_true rfl, Nat.le_of_ble_eq_true rfl⟩) rfl hl.1 rfl (by decide) ⟨Nat.le_of_ble_eq_true rfl, Nat.le_of_ble_eq_true rfl⟩ dX6_readTimetable_61 rfl (fun H locs h => ?_)
    exact bz_iret C h hlocks hr hF dX6_readTimetable_64
  · have hF := it_t hF c6
    refine lv_bipush (v := (-100)) hx hb dX6_readTimetable_21 (by decide) ?_
    refine lv_aload_n hx hb dX6_readTimetable_23 rfl (lv_at hl 0 rfl) ?_
    refine gf_6_4 C h ka0 iz_X6 (List.mem_cons_of_mem _ wd_1_21) dX6_readTimetable_24 (fun k19 => ?_)
    refine gf_5_2 C h k19 iz_X5 (List.mem_cons_of_mem _ wd_11_13) dX6_readTimetable_27 ?_
    refine lv_isub hx hb dX6_readTimetable_30 ?_
    exact bz_iret C h hlocks hr hF dX6_readTimetable_31
set_option maxHeartbeats 4000000 in
set_option maxRecDepth 100000 in
theorem c_X6_undo {l : Launch} {G : bz_G} {σ : bz_W} {a0 : Nat} (ka0 : bz_k G a0 = (7, 0)) {res : Int32 × bz_W} (hF : f_X6_undo σ a0 = some res) : bz_M l yX6_undo wz_X6_undo 4 104 G σ [.ref a0] (some (.int res.1)) res.2 := by
  refine bz_mk (cc := cX6_undo) (maxL := 1) (ret := (some .int)) (own := RX6) (by decide) rfl rfl (Nat.le_of_ble_eq_true rfl) ?_
  intro p e s m args below meth c ls C hlocks hr h hl
  have hx := C.1
  have hb := C.2.1
  have hts := C.2.2.2.2.1
  have hl : lv_has ls 1 [(0, .ref a0)] := hl
  obtain ⟨H, eH⟩ : ∃ y, y = s.heap := ⟨_, rfl⟩
  obtain ⟨locs, el⟩ : ∃ y : List Loc, y = [] := ⟨_, rfl⟩
  rw [← el, ← eH] at h ⊢
  unfold f_X6_undo at hF
  refine lv_aload_n hx hb dX6_undo_0 rfl (lv_at hl 0 rfl) ?_
  refine gf_6_1 C h ka0 iz_X6 (List.mem_cons_of_mem _ wd_1_16) dX6_undo_1 (fun k1 => ?_)
  refine lv_aload_n hx hb dX6_undo_4 rfl (lv_at hl 0 rfl) ?_
  refine gf_6_0 C h ka0 iz_X6 (List.mem_cons_of_mem _ wd_1_12) dX6_undo_5 (fun k2 => ?_)
  obtain ⟨r3, σ4, qr3, hF⟩ := bd_u hF
  refine bz_callV (rest := []) (st1 := [.int r3]) C h (As := [.ref (σ.2 a0 0)]) (o := some (.int r3)) (τ := σ4) (c_X1_takeBack (l := l) k1 k2 (res := (r3, σ4)) qr3) k1 (by decide) (ci := 1) rfl (cwV 1 hts (bz_gV wd_4_11 wd_4_12 wd_4_13 wd_1_15 wd_4_14) rfl rfl rfl (by decide +kernel) ⟨Nat.le_of_ble_eq_true rfl, Nat.le_of_ble_eq_true rfl⟩) rfl hl.1 rfl (by decide) ⟨Nat.le_of_ble_eq_true rfl, Nat.le_of_ble_eq_true rfl⟩ dX6_undo_8 rfl (fun H locs h => ?_)
  refine lv_if_eq (tgt := 24) hx hb dX6_undo_11 (by decide) (fun c5 => ?_) (fun c5 => ?_)
  · have hF := it_t hF c5
    refine lv_bipush (v := (-4)) hx hb dX6_undo_24 (by decide) ?_
    exact bz_iret C h hlocks hr hF dX6_undo_26
  · have hF := it_f hF c5
    refine lv_aload_n hx hb dX6_undo_14 rfl (lv_at hl 0 rfl) ?_
    refine gf_6_1 C h ka0 iz_X6 (List.mem_cons_of_mem _ wd_1_16) dX6_undo_15 (fun k6 => ?_)
    refine gf_1_1 C h k6 iz_X1 (List.mem_cons_of_mem _ wd_4_10) dX6_undo_18 ?_
    refine lv_goto (tgt := 26) hx hb dX6_undo_21 (by decide) ?_
    exact bz_iret C h hlocks hr hF dX6_undo_26
set_option maxHeartbeats 4000000 in
set_option maxRecDepth 100000 in
theorem c_X6_keep {l : Launch} {G : bz_G} {σ : bz_W} {a0 : Nat} (ka0 : bz_k G a0 = (7, 0)) {res : Int32 × bz_W} (hF : f_X6_keep σ a0 = some res) : bz_M l yX6_keep wz_X6_keep 3 83 G σ [.ref a0] (some (.int res.1)) res.2 := by
  refine bz_mk (cc := cX6_keep) (maxL := 1) (ret := (some .int)) (own := RX6) (by decide) rfl rfl (Nat.le_of_ble_eq_true rfl) ?_
  intro p e s m args below meth c ls C hlocks hr h hl
  have hx := C.1
  have hb := C.2.1
  have hts := C.2.2.2.2.1
  have hl : lv_has ls 1 [(0, .ref a0)] := hl
  obtain ⟨H, eH⟩ : ∃ y, y = s.heap := ⟨_, rfl⟩
  obtain ⟨locs, el⟩ : ∃ y : List Loc, y = [] := ⟨_, rfl⟩
  rw [← el, ← eH] at h ⊢
  unfold f_X6_keep at hF
  refine lv_aload_n hx hb dX6_keep_0 rfl (lv_at hl 0 rfl) ?_
  refine gf_6_2 C h ka0 iz_X6 (List.mem_cons_of_mem _ wd_1_17) dX6_keep_1 (fun k1 => ?_)
  refine lv_aload_n hx hb dX6_keep_4 rfl (lv_at hl 0 rfl) ?_
  refine gf_6_0 C h ka0 iz_X6 (List.mem_cons_of_mem _ wd_1_12) dX6_keep_5 (fun k2 => ?_)
  obtain ⟨r3, σ4, qr3, hF⟩ := bd_u hF
  refine bz_callV (rest := []) (st1 := []) C h (As := [.ref (σ.2 a0 0)]) (o := none) (τ := σ4) (c_X3_copyFrom (l := l) k1 k2 (res := (r3, σ4)) qr3) k1 (by decide) (ci := 3) rfl (cwV 1 hts (bz_gV wd_7_0 wd_4_17 wd_4_18 wd_1_11 wd_4_19) rfl rfl rfl (by decide +kernel) ⟨Nat.le_of_ble_eq_true rfl, Nat.le_of_ble_eq_true rfl⟩) rfl hl.1 rfl (by decide) ⟨Nat.le_of_ble_eq_true rfl, Nat.le_of_ble_eq_true rfl⟩ dX6_keep_8 rfl (fun H locs h => ?_)
  refine lv_aload_n hx hb dX6_keep_11 rfl (lv_at hl 0 rfl) ?_
  refine lv_iconst (v := 1) hx hb dX6_keep_12 (by decide) ?_
  refine pf_6_3 C h ka0 iz_X6 (List.mem_cons_of_mem _ wd_6_14) (by decide) dX6_keep_13 (fun H locs h => ?_)
  obtain ⟨σ5, eσ5⟩ : ∃ y : bz_W, y = bz_wi σ4 a0 3 1 := ⟨_, rfl⟩
  rw [← eσ5] at h
  have hF := lt_u hF σ5 eσ5
  refine lv_aload_n hx hb dX6_keep_16 rfl (lv_at hl 0 rfl) ?_
  refine gf_6_0 C h ka0 iz_X6 (List.mem_cons_of_mem _ wd_1_12) dX6_keep_17 (fun k6 => ?_)
  refine gf_3_4 C h k6 iz_X3 (List.mem_cons_of_mem _ wd_6_15) dX6_keep_20 ?_
  exact bz_iret C h hlocks hr hF dX6_keep_23
set_option maxHeartbeats 4000000 in
set_option maxRecDepth 100000 in
theorem c_X6_restore {l : Launch} {G : bz_G} {σ : bz_W} {a0 : Nat} (ka0 : bz_k G a0 = (7, 0)) {res : Int32 × bz_W} (hF : f_X6_restore σ a0 = some res) : bz_M l yX6_restore wz_X6_restore 4 104 G σ [.ref a0] (some (.int res.1)) res.2 := by
  refine bz_mk (cc := cX6_restore) (maxL := 1) (ret := (some .int)) (own := RX6) (by decide) rfl rfl (Nat.le_of_ble_eq_true rfl) ?_
  intro p e s m args below meth c ls C hlocks hr h hl
  have hx := C.1
  have hb := C.2.1
  have hts := C.2.2.2.2.1
  have hl : lv_has ls 1 [(0, .ref a0)] := hl
  obtain ⟨H, eH⟩ : ∃ y, y = s.heap := ⟨_, rfl⟩
  obtain ⟨locs, el⟩ : ∃ y : List Loc, y = [] := ⟨_, rfl⟩
  rw [← el, ← eH] at h ⊢
  unfold f_X6_restore at hF
  refine lv_aload_n hx hb dX6_restore_0 rfl (lv_at hl 0 rfl) ?_
  refine gf_6_3 C h ka0 iz_X6 (List.mem_cons_of_mem _ wd_6_14) dX6_restore_1 ?_
  refine lv_if_ne (tgt := 10) hx hb dX6_restore_4 (by decide) (fun c1 => ?_) (fun c1 => ?_)
  · have hF := it_f hF c1
    refine lv_aload_n hx hb dX6_restore_10 rfl (lv_at hl 0 rfl) ?_
    refine gf_6_1 C h ka0 iz_X6 (List.mem_cons_of_mem _ wd_1_16) dX6_restore_11 (fun k2 => ?_)
    refine lv_aload_n hx hb dX6_restore_14 rfl (lv_at hl 0 rfl) ?_
    refine gf_6_0 C h ka0 iz_X6 (List.mem_cons_of_mem _ wd_1_12) dX6_restore_15 (fun k3 => ?_)
    obtain ⟨r4, σ5, qr4, hF⟩ := bd_u hF
    refine bz_callV (rest := []) (st1 := []) C h (As := [.ref (σ.2 a0 0)]) (o := none) (τ := σ5) (c_X1_record (l := l) k2 k3 (res := (r4, σ5)) qr4) k2 (by decide) (ci := 1) rfl (cwV 1 hts (bz_gV wd_6_16 wd_6_17 wd_6_18 wd_1_15 wd_6_19) rfl rfl rfl (by decide +kernel) ⟨Nat.le_of_ble_eq_true rfl, Nat.le_of_ble_eq_true rfl⟩) rfl hl.1 rfl (by decide) ⟨Nat.le_of_ble_eq_true rfl, Nat.le_of_ble_eq_true rfl⟩ dX6_restore_18 rfl (fun H locs h => ?_)
    refine lv_aload_n hx hb dX6_restore_21 rfl (lv_at hl 0 rfl) ?_
    refine gf_6_0 C h ka0 iz_X6 (List.mem_cons_of_mem _ wd_1_12) dX6_restore_22 (fun k6 => ?_)
    refine lv_aload_n hx hb dX6_restore_25 rfl (lv_at hl 0 rfl) ?_
    refine gf_6_2 C h ka0 iz_X6 (List.mem_cons_of_mem _ wd_1_17) dX6_restore_26 (fun k7 => ?_)
    obtain ⟨r8, σ9, qr8, hF⟩ := bd_u hF
    refine bz_callV (rest := []) (st1 := []) C h (As := [.ref (σ5.2 a0 2)]) (o := none) (τ := σ9) (c_X3_copyFrom (l := l) k6 k7 (res := (r8, σ9)) qr8) k6 (by decide) (ci := 3) rfl (cwV 1 hts (bz_gV wd_7_0 wd_4_17 wd_4_18 wd_1_11 wd_4_19) rfl rfl rfl (by decide +kernel) ⟨Nat.le_of_ble_eq_true rfl, Nat.le_of_ble_eq_true rfl⟩) rfl hl.1 rfl (by decide) ⟨Nat.le_of_ble_eq_true rfl, Nat.le_of_ble_eq_true rfl⟩ dX6_restore_29 rfl (fun H locs h => ?_)
    refine lv_aload_n hx hb dX6_restore_32 rfl (lv_at hl 0 rfl) ?_
    refine gf_6_0 C h ka0 iz_X6 (List.mem_cons_of_mem _ wd_1_12) dX6_restore_33 (fun k10 => ?_)
    refine gf_3_4 C h k10 iz_X3 (List.mem_cons_of_mem _ wd_6_15) dX6_restore_36 ?_
    exact bz_iret C h hlocks hr hF dX6_restore_39
  · have hF := it_t hF c1
    refine lv_bipush (v := (-4)) hx hb dX6_restore_7 (by decide) ?_
    exact bz_iret C h hlocks hr hF dX6_restore_9
set_option maxHeartbeats 4000000 in
set_option maxRecDepth 100000 in
theorem c_X6_motor {l : Launch} {G : bz_G} {σ : bz_W} {a0 : Nat} {x1_ : Int32} {x2_ : Int32} (ka0 : bz_k G a0 = (7, 0)) {res : Int32 × bz_W} (hF : f_X6_motor σ a0 x1_ x2_ = some res) : bz_M l yX6_motor wz_X6_motor 2 42 G σ [.ref a0, .int x1_, .int x2_] (some (.int res.1)) res.2 := by
  refine bz_mk (cc := cX6_motor) (maxL := 4) (ret := (some .int)) (own := RX6) (by decide) rfl rfl (Nat.le_of_ble_eq_true rfl) ?_
  intro p e s m args below meth c ls C hlocks hr h hl
  have hx := C.1
  have hb := C.2.1
  have hts := C.2.2.2.2.1
  have hl : lv_has ls 4 [(0, .ref a0), (1, .int x1_), (2, .int x2_)] := hl
  obtain ⟨H, eH⟩ : ∃ y, y = s.heap := ⟨_, rfl⟩
  obtain ⟨locs, el⟩ : ∃ y : List Loc, y = [] := ⟨_, rfl⟩
  rw [← el, ← eH] at h ⊢
  unfold f_X6_motor at hF
  refine lv_aload_n hx hb dX6_motor_0 rfl (lv_at hl 0 rfl) ?_
  refine gf_6_0 C h ka0 iz_X6 (List.mem_cons_of_mem _ wd_1_12) dX6_motor_1 (fun k1 => ?_)
  refine lv_iload_n hx hb dX6_motor_4 rfl (lv_at hl 1 rfl) ?_
  obtain ⟨r2, σ3, qr2, hF⟩ := bd_u hF
  have h0 := h
  refine bz_callV (rest := []) (st1 := [bz_rv r2]) C h (As := [.int x1_]) (o := some (bz_rv r2)) (τ := σ3) (c_X3_find (l := l) k1 (res := (r2, σ3)) qr2) k1 (by decide) (ci := 3) rfl (cwV 1 hts (bz_gV wd_8_11 wd_8_12 wd_8_13 wd_1_11 wd_8_14) rfl rfl rfl (by decide +kernel) ⟨Nat.le_of_ble_eq_true rfl, Nat.le_of_ble_eq_true rfl⟩) rfl hl.1 rfl (by decide) ⟨Nat.le_of_ble_eq_true rfl, Nat.le_of_ble_eq_true rfl⟩ dX6_motor_5 rfl (fun H locs h => ?_)
  by_cases zr2 : r2 = 0
  · have hF := it_t hF zr2
    rw [show bz_rv r2 = .null by rw [zr2]; rfl]
    refine lv_astore_nN (lv' := [(3, .null), (0, .ref a0), (1, .int x1_), (2, .int x2_)]) hx hb dX6_motor_8 rfl hl (by decide) rfl (fun ls hl => ?_)
    refine lv_aload_nN hx hb dX6_motor_9 rfl (lv_at hl 0 rfl) ?_
    refine lv_ifnonnullN hx hb dX6_motor_10 ?_
    refine lv_iconst (v := (-1)) hx hb dX6_motor_13 (by decide) ?_
    exact bz_iret C h hlocks hr hF dX6_motor_14
  · have hF := it_f hF zr2
    have kr2 := kd_X3_find k1 h0.2.1 qr2 zr2
    rw [bz_rv0 C.2.2.2.2.2.1.2.2.2 kr2 (by decide)]
    refine lv_astore_n (lv' := [(3, .ref r2), (0, .ref a0), (1, .int x1_), (2, .int x2_)]) hx hb dX6_motor_8 rfl hl (by decide) rfl (fun ls hl => ?_)
    refine lv_aload_n hx hb dX6_motor_9 rfl (lv_at hl 0 rfl) ?_
    refine lv_ifnonnull (tgt := 15) hx hb dX6_motor_10 (by decide) ?_
    refine lv_iload_n hx hb dX6_motor_15 rfl (lv_at hl 3 rfl) ?_
    by_cases c4 : x2_ = 0
    · have hF := it_t hF c4
      refine lv_tableIn (tgt := 84) hx hb dX6_motor_16 (by rw [c4]; decide) (by rw [c4]; decide) (by rw [c4]; rfl) (by decide) ?_
      refine lv_aload_n hx hb dX6_motor_84 rfl (lv_at hl 0 rfl) ?_
      refine gf_2_2 C h kr2 iz_X2 (List.mem_cons_of_mem _ wd_21_8) dX6_motor_85 ?_
      exact bz_iret C h hlocks hr hF dX6_motor_88
    have hF := it_f hF c4
    by_cases c5 : x2_ = 1
    · have hF := it_t hF c5
      refine lv_tableIn (tgt := 89) hx hb dX6_motor_16 (by rw [c5]; decide) (by rw [c5]; decide) (by rw [c5]; rfl) (by decide) ?_
      refine lv_aload_n hx hb dX6_motor_89 rfl (lv_at hl 0 rfl) ?_
      refine gf_2_3 C h kr2 iz_X2 (List.mem_cons_of_mem _ wd_21_9) dX6_motor_90 ?_
      exact bz_iret C h hlocks hr hF dX6_motor_93
    have hF := it_f hF c5
    by_cases c6 : x2_ = 2
    · have hF := it_t hF c6
      refine lv_tableIn (tgt := 94) hx hb dX6_motor_16 (by rw [c6]; decide) (by rw [c6]; decide) (by rw [c6]; rfl) (by decide) ?_
      refine lv_aload_n hx hb dX6_motor_94 rfl (lv_at hl 0 rfl) ?_
      refine gf_2_4 C h kr2 iz_X2 (List.mem_cons_of_mem _ wd_21_10) dX6_motor_95 ?_
      exact bz_iret C h hlocks hr hF dX6_motor_98
    have hF := it_f hF c6
    by_cases c7 : x2_ = 3
    · have hF := it_t hF c7
      refine lv_tableIn (tgt := 99) hx hb dX6_motor_16 (by rw [c7]; decide) (by rw [c7]; decide) (by rw [c7]; rfl) (by decide) ?_
      refine lv_aload_n hx hb dX6_motor_99 rfl (lv_at hl 0 rfl) ?_
      refine gf_2_5 C h kr2 iz_X2 (List.mem_cons_of_mem _ wd_9_9) dX6_motor_100 ?_
      exact bz_iret C h hlocks hr hF dX6_motor_103
    have hF := it_f hF c7
    by_cases c8 : x2_ = 4
    · have hF := it_t hF c8
      refine lv_tableIn (tgt := 104) hx hb dX6_motor_16 (by rw [c8]; decide) (by rw [c8]; decide) (by rw [c8]; rfl) (by decide) ?_
      refine lv_aload_n hx hb dX6_motor_104 rfl (lv_at hl 0 rfl) ?_
      refine gf_2_7 C h kr2 iz_X2 (List.mem_cons_of_mem _ wd_21_11) dX6_motor_105 ?_
      exact bz_iret C h hlocks hr hF dX6_motor_108
    have hF := it_f hF c8
    by_cases c9 : x2_ = 5
    · have hF := it_t hF c9
      refine lv_tableIn (tgt := 109) hx hb dX6_motor_16 (by rw [c9]; decide) (by rw [c9]; decide) (by rw [c9]; rfl) (by decide) ?_
      refine lv_aload_n hx hb dX6_motor_109 rfl (lv_at hl 0 rfl) ?_
      refine gf_2_8 C h kr2 iz_X2 (List.mem_cons_of_mem _ wd_7_11) dX6_motor_110 ?_
      exact bz_iret C h hlocks hr hF dX6_motor_113
    have hF := it_f hF c9
    by_cases c10 : x2_ = 6
    · have hF := it_t hF c10
      refine lv_tableIn (tgt := 114) hx hb dX6_motor_16 (by rw [c10]; decide) (by rw [c10]; decide) (by rw [c10]; rfl) (by decide) ?_
      refine lv_aload_n hx hb dX6_motor_114 rfl (lv_at hl 0 rfl) ?_
      refine gf_2_9 C h kr2 iz_X2 (List.mem_cons_of_mem _ wd_9_8) dX6_motor_115 ?_
      exact bz_iret C h hlocks hr hF dX6_motor_118
    have hF := it_f hF c10
    by_cases c11 : x2_ = 7
    · have hF := it_t hF c11
      refine lv_tableIn (tgt := 119) hx hb dX6_motor_16 (by rw [c11]; decide) (by rw [c11]; decide) (by rw [c11]; rfl) (by decide) ?_
      refine lv_aload_n hx hb dX6_motor_119 rfl (lv_at hl 0 rfl) ?_
      refine gf_2_10 C h kr2 iz_X2 (List.mem_cons_of_mem _ wd_9_0) dX6_motor_120 ?_
      exact bz_iret C h hlocks hr hF dX6_motor_123
    have hF := it_f hF c11
    by_cases c12 : x2_ = 8
    · have hF := it_t hF c12
      refine lv_tableIn (tgt := 124) hx hb dX6_motor_16 (by rw [c12]; decide) (by rw [c12]; decide) (by rw [c12]; rfl) (by decide) ?_
      refine lv_aload_n hx hb dX6_motor_124 rfl (lv_at hl 0 rfl) ?_
      refine gf_2_8 C h kr2 iz_X2 (List.mem_cons_of_mem _ wd_7_11) dX6_motor_125 ?_
      refine lv_iconst (v := 2) hx hb dX6_motor_128 (by decide) ?_
      refine lv_icmp_ne (tgt := 139) hx hb dX6_motor_129 (by decide) (fun c13 => ?_) (fun c13 => ?_)
      · have hF := it_f hF c13
        refine lv_bipush (v := (-4)) hx hb dX6_motor_139 (by decide) ?_
        exact bz_iret C h hlocks hr hF dX6_motor_141
      · have hF := it_t hF c13
        refine lv_aload_n hx hb dX6_motor_132 rfl (lv_at hl 0 rfl) ?_
        refine gf_2_11 C h kr2 iz_X2 (List.mem_cons_of_mem _ wd_18_13) dX6_motor_133 ?_
        refine lv_goto (tgt := 141) hx hb dX6_motor_136 (by decide) ?_
        exact bz_iret C h hlocks hr hF dX6_motor_141
    have hF := it_f hF c12
    by_cases c14 : x2_ = 9
    · have hF := it_t hF c14
      refine lv_tableIn (tgt := 142) hx hb dX6_motor_16 (by rw [c14]; decide) (by rw [c14]; decide) (by rw [c14]; rfl) (by decide) ?_
      refine lv_aload_n hx hb dX6_motor_142 rfl (lv_at hl 0 rfl) ?_
      refine gf_2_8 C h kr2 iz_X2 (List.mem_cons_of_mem _ wd_7_11) dX6_motor_143 ?_
      refine lv_iconst (v := 1) hx hb dX6_motor_146 (by decide) ?_
      refine lv_icmp_ne (tgt := 165) hx hb dX6_motor_147 (by decide) (fun c15 => ?_) (fun c15 => ?_)
      · have hF := it_f hF c15
        refine lv_bipush (v := (-4)) hx hb dX6_motor_165 (by decide) ?_
        exact bz_iret C h hlocks hr hF dX6_motor_167
      · have hF := it_t hF c15
        refine lv_aload_n hx hb dX6_motor_150 rfl (lv_at hl 1 rfl) ?_
        refine gf_6_0 C h ka0 iz_X6 (List.mem_cons_of_mem _ wd_1_12) dX6_motor_151 (fun k16 => ?_)
        refine gf_3_4 C h k16 iz_X3 (List.mem_cons_of_mem _ wd_6_15) dX6_motor_154 ?_
        refine lv_aload_n hx hb dX6_motor_157 rfl (lv_at hl 0 rfl) ?_
        refine gf_2_12 C h kr2 iz_X2 (List.mem_cons_of_mem _ wd_9_14) dX6_motor_158 ?_
        refine lv_isub hx hb dX6_motor_161 ?_
        refine lv_goto (tgt := 167) hx hb dX6_motor_162 (by decide) ?_
        exact bz_iret C h hlocks hr hF dX6_motor_167
    have hF := it_f hF c14
    by_cases c17 : x2_ = 10
    · have hF := it_t hF c17
      refine lv_tableIn (tgt := 168) hx hb dX6_motor_16 (by rw [c17]; decide) (by rw [c17]; decide) (by rw [c17]; rfl) (by decide) ?_
      refine lv_aload_n hx hb dX6_motor_168 rfl (lv_at hl 0 rfl) ?_
      obtain ⟨r18, σ19, qr18, hF⟩ := bd_u hF
      refine bz_callV (rest := []) (st1 := [.int r18]) C h (As := []) (o := some (.int r18)) (τ := σ19) (c_X2_draw (l := l) kr2 (res := (r18, σ19)) qr18) kr2 (by decide) (ci := 2) rfl (cwV 0 hts (bz_gV wd_21_16 wd_17_6 wd_17_7 wd_2_11 wd_17_8) rfl rfl rfl (by decide +kernel) ⟨Nat.le_of_ble_eq_true rfl, Nat.le_of_ble_eq_true rfl⟩) rfl hl.1 rfl (by decide) ⟨Nat.le_of_ble_eq_true rfl, Nat.le_of_ble_eq_true rfl⟩ dX6_motor_169 rfl (fun H locs h => ?_)
      exact bz_iret C h hlocks hr hF dX6_motor_172
    have hF := it_f hF c17
    by_cases c20 : x2_ = 11
    · have hF := it_t hF c20
      refine lv_tableIn (tgt := 173) hx hb dX6_motor_16 (by rw [c20]; decide) (by rw [c20]; decide) (by rw [c20]; rfl) (by decide) ?_
      refine lv_aload_n hx hb dX6_motor_173 rfl (lv_at hl 0 rfl) ?_
      refine gf_2_8 C h kr2 iz_X2 (List.mem_cons_of_mem _ wd_7_11) dX6_motor_174 ?_
      refine lv_iconst (v := 4) hx hb dX6_motor_177 (by decide) ?_
      refine lv_icmp_ne (tgt := 188) hx hb dX6_motor_178 (by decide) (fun c21 => ?_) (fun c21 => ?_)
      · have hF := it_f hF c21
        refine lv_bipush (v := (-4)) hx hb dX6_motor_188 (by decide) ?_
        exact bz_iret C h hlocks hr hF dX6_motor_190
      · have hF := it_t hF c21
        refine lv_aload_n hx hb dX6_motor_181 rfl (lv_at hl 0 rfl) ?_
        refine gf_2_13 C h kr2 iz_X2 (List.mem_cons_of_mem _ wd_21_12) dX6_motor_182 ?_
        refine lv_goto (tgt := 190) hx hb dX6_motor_185 (by decide) ?_
        exact bz_iret C h hlocks hr hF dX6_motor_190
    have hF := it_f hF c20
    by_cases c22 : x2_ = 12
    · have hF := it_t hF c22
      refine lv_tableIn (tgt := 191) hx hb dX6_motor_16 (by rw [c22]; decide) (by rw [c22]; decide) (by rw [c22]; rfl) (by decide) ?_
      refine lv_iconst (v := 0) hx hb dX6_motor_191 (by decide) ?_
      refine lv_aload_n hx hb dX6_motor_192 rfl (lv_at hl 0 rfl) ?_
      obtain ⟨r23, σ24, qr23, hF⟩ := bd_u hF
      refine bz_callV (rest := [.int 0]) (st1 := [.int r23, .int 0]) C h (As := []) (o := some (.int r23)) (τ := σ24) (c_X2_credit (l := l) kr2 (res := (r23, σ24)) qr23) kr2 (by decide) (ci := 2) rfl (cwV 0 hts (bz_gV wd_21_17 wd_18_22 wd_18_23 wd_2_11 wd_19_0) rfl rfl rfl (by decide +kernel) ⟨Nat.le_of_ble_eq_true rfl, Nat.le_of_ble_eq_true rfl⟩) rfl hl.1 rfl (Nat.le_of_ble_eq_true rfl) ⟨Nat.le_of_ble_eq_true rfl, Nat.le_of_ble_eq_true rfl⟩ dX6_motor_193 rfl (fun H locs h => ?_)
      refine va_mmax hx hb (C.2.2.1.trans hl.1.symm) C.2.2.2.1 (hts _ (List.mem_cons_of_mem _ wd_21_13)) (hts _ (List.mem_cons_of_mem _ wd_21_14)) (hts _ (List.mem_cons_of_mem _ wd_11_7)) (hts _ (List.mem_cons_of_mem _ wd_21_15)) (by decide) (Nat.le_of_ble_eq_true rfl) (Nat.zero_le _) (Nat.zero_le _) dX6_motor_196 ?_
      exact bz_iret C h hlocks hr hF dX6_motor_199
    have hF := it_f hF c22
    refine lv_tableOut (tgt := 200) hx hb dX6_motor_16 (bz_out13 c4 c5 c6 c7 c8 c9 c10 c11 c12 c14 c17 c20 c22) (by decide) ?_
    refine lv_bipush (v := (-2)) hx hb dX6_motor_200 (by decide) ?_
    exact bz_iret C h hlocks hr hF dX6_motor_202
set_option maxHeartbeats 4000000 in
set_option maxRecDepth 100000 in
theorem c_X6_account {l : Launch} {G : bz_G} {σ : bz_W} {a0 : Nat} {x1_ : Int32} {x2_ : Int32} (ka0 : bz_k G a0 = (7, 0)) {res : Int32 × bz_W} (hF : f_X6_account σ a0 x1_ x2_ = some res) : bz_M l yX6_account wz_X6_account 1 22 G σ [.ref a0, .int x1_, .int x2_] (some (.int res.1)) res.2 := by
  refine bz_mk (cc := cX6_account) (maxL := 4) (ret := (some .int)) (own := RX6) (by decide) rfl rfl (Nat.le_of_ble_eq_true rfl) ?_
  intro p e s m args below meth c ls C hlocks hr h hl
  have hx := C.1
  have hb := C.2.1
  have hts := C.2.2.2.2.1
  have hl : lv_has ls 4 [(0, .ref a0), (1, .int x1_), (2, .int x2_)] := hl
  obtain ⟨H, eH⟩ : ∃ y, y = s.heap := ⟨_, rfl⟩
  obtain ⟨locs, el⟩ : ∃ y : List Loc, y = [] := ⟨_, rfl⟩
  rw [← el, ← eH] at h ⊢
  unfold f_X6_account at hF
  refine lv_aload_n hx hb dX6_account_0 rfl (lv_at hl 0 rfl) ?_
  refine gf_6_0 C h ka0 iz_X6 (List.mem_cons_of_mem _ wd_1_12) dX6_account_1 (fun k1 => ?_)
  refine lv_iload_n hx hb dX6_account_4 rfl (lv_at hl 1 rfl) ?_
  obtain ⟨r2, σ3, qr2, hF⟩ := bd_u hF
  have h0 := h
  refine bz_callV (rest := []) (st1 := [bz_rv r2]) C h (As := [.int x1_]) (o := some (bz_rv r2)) (τ := σ3) (c_X3_find (l := l) k1 (res := (r2, σ3)) qr2) k1 (by decide) (ci := 3) rfl (cwV 1 hts (bz_gV wd_8_11 wd_8_12 wd_8_13 wd_1_11 wd_8_14) rfl rfl rfl (by decide +kernel) ⟨Nat.le_of_ble_eq_true rfl, Nat.le_of_ble_eq_true rfl⟩) rfl hl.1 rfl (by decide) ⟨Nat.le_of_ble_eq_true rfl, Nat.le_of_ble_eq_true rfl⟩ dX6_account_5 rfl (fun H locs h => ?_)
  by_cases zr2 : r2 = 0
  · have hF := it_t hF zr2
    rw [show bz_rv r2 = .null by rw [zr2]; rfl]
    refine lv_astore_nN (lv' := [(3, .null), (0, .ref a0), (1, .int x1_), (2, .int x2_)]) hx hb dX6_account_8 rfl hl (by decide) rfl (fun ls hl => ?_)
    refine lv_aload_nN hx hb dX6_account_9 rfl (lv_at hl 0 rfl) ?_
    refine lv_ifnonnullN hx hb dX6_account_10 ?_
    refine lv_iconst (v := (-1)) hx hb dX6_account_13 (by decide) ?_
    exact bz_iret C h hlocks hr hF dX6_account_14
  · have hF := it_f hF zr2
    have kr2 := kd_X3_find k1 h0.2.1 qr2 zr2
    rw [bz_rv0 C.2.2.2.2.2.1.2.2.2 kr2 (by decide)]
    refine lv_astore_n (lv' := [(3, .ref r2), (0, .ref a0), (1, .int x1_), (2, .int x2_)]) hx hb dX6_account_8 rfl hl (by decide) rfl (fun ls hl => ?_)
    refine lv_aload_n hx hb dX6_account_9 rfl (lv_at hl 0 rfl) ?_
    refine lv_ifnonnull (tgt := 15) hx hb dX6_account_10 (by decide) ?_
    refine lv_iload_n hx hb dX6_account_15 rfl (lv_at hl 3 rfl) ?_
    refine lv_iconst (v := 0) hx hb dX6_account_16 (by decide) ?_
    refine lv_bipush (v := 6) hx hb dX6_account_17 (by decide) ?_
    obtain ⟨r4, σ5, qr4, hF⟩ := bd_u hF
    refine bz_callS (rest := []) (st1 := [.int r4]) C h (As := [.int x2_, .int 0, .int 6]) (o := some (.int r4)) (τ := σ5) (c_X6_isOutside (l := l)  (res := (r4, σ5)) qr4) (va_cwS 3 hts (bz_gS wd_9_1 wd_9_2 wd_1_2 wd_9_3) rfl rfl rfl (by decide +kernel) ⟨Nat.le_of_ble_eq_true rfl, Nat.le_of_ble_eq_true rfl⟩) rfl hl.1 rfl (by decide) ⟨Nat.le_of_ble_eq_true rfl, Nat.le_of_ble_eq_true rfl⟩ dX6_account_19 rfl (fun H locs h => ?_)
    refine lv_if_eq (tgt := 30) hx hb dX6_account_22 (by decide) (fun c6 => ?_) (fun c6 => ?_)
    · have hF := it_t hF c6
      refine lv_aload_n hx hb dX6_account_30 rfl (lv_at hl 0 rfl) ?_
      refine gf_2_1 C h kr2 iz_X2 (List.mem_cons_of_mem _ wd_18_14) dX6_account_31 (fun k7 => ?_)
      refine lv_iload_n hx hb dX6_account_34 rfl (lv_at hl 3 rfl) ?_
      obtain ⟨c8, hF⟩ := ck_u hF
      refine bz_iald C h k7 c8 (kx := x2_.toNatClampNeg) rfl dX6_account_35 ?_
      exact bz_iret C h hlocks hr hF dX6_account_36
    · have hF := it_f hF c6
      refine lv_bipush (v := (-2)) hx hb dX6_account_25 (by decide) ?_
      refine lv_goto (tgt := 36) hx hb dX6_account_27 (by decide) ?_
      exact bz_iret C h hlocks hr hF dX6_account_36
set_option maxHeartbeats 4000000 in
set_option maxRecDepth 100000 in
theorem c_X6_queue {l : Launch} {G : bz_G} {σ : bz_W} {a0 : Nat} {x1_ : Int32} (ka0 : bz_k G a0 = (7, 0)) {res : Int32 × bz_W} (hF : f_X6_queue σ a0 x1_ = some res) : bz_M l yX6_queue wz_X6_queue 3 70 G σ [.ref a0, .int x1_] (some (.int res.1)) res.2 := by
  refine bz_mk (cc := cX6_queue) (maxL := 3) (ret := (some .int)) (own := RX6) (by decide) rfl rfl (Nat.le_of_ble_eq_true rfl) ?_
  intro p e s m args below meth c ls C hlocks hr h hl
  have hx := C.1
  have hb := C.2.1
  have hts := C.2.2.2.2.1
  have hl : lv_has ls 3 [(0, .ref a0), (1, .int x1_)] := hl
  obtain ⟨H, eH⟩ : ∃ y, y = s.heap := ⟨_, rfl⟩
  obtain ⟨locs, el⟩ : ∃ y : List Loc, y = [] := ⟨_, rfl⟩
  rw [← el, ← eH] at h ⊢
  unfold f_X6_queue at hF
  refine lv_iload_n hx hb dX6_queue_0 rfl (lv_at hl 1 rfl) ?_
  refine lv_if_ge (tgt := 7) hx hb dX6_queue_1 (by decide) (fun c1 => ?_) (fun c1 => ?_)
  · have hF := it_t hF c1
    refine lv_aload_n hx hb dX6_queue_7 rfl (lv_at hl 0 rfl) ?_
    obtain ⟨r2, σ3, qr2, hF⟩ := bd_u hF
    refine bz_callV (rest := []) (st1 := [.int r2]) C h (As := []) (o := some (.int r2)) (τ := σ3) (c_X6_fillLine (l := l) ka0 (res := (r2, σ3)) qr2) ka0 (by decide) (ci := 6) rfl (cwV 0 hts (bz_gV wd_7_5 wd_7_6 wd_7_7 wd_1_2 wd_7_8) rfl rfl rfl (by decide +kernel) ⟨Nat.le_of_ble_eq_true rfl, Nat.le_of_ble_eq_true rfl⟩) rfl hl.1 rfl (by decide) ⟨Nat.le_of_ble_eq_true rfl, Nat.le_of_ble_eq_true rfl⟩ dX6_queue_8 rfl (fun H locs h => ?_)
    refine lv_istore_n (lv' := [(2, .int r2), (0, .ref a0), (1, .int x1_)]) hx hb dX6_queue_11 rfl hl (by decide) rfl (fun ls hl => ?_)
    refine lv_iload_n hx hb dX6_queue_12 rfl (lv_at hl 2 rfl) ?_
    refine lv_iload_n hx hb dX6_queue_13 rfl (lv_at hl 0 rfl) ?_
    refine lv_icmp_ge (tgt := 26) hx hb dX6_queue_14 (by decide) (fun c4 => ?_) (fun c4 => ?_)
    · have hF := it_t hF c4
      refine lv_bipush (v := (-4)) hx hb dX6_queue_26 (by decide) ?_
      exact bz_iret C h hlocks hr hF dX6_queue_28
    · have hF := it_f hF c4
      refine lv_aload_n hx hb dX6_queue_17 rfl (lv_at hl 1 rfl) ?_
      refine gf_6_6 C h ka0 iz_X6 (List.mem_cons_of_mem _ wd_2_3) dX6_queue_18 (fun k5 => ?_)
      refine lv_iload_n hx hb dX6_queue_21 rfl (lv_at hl 2 rfl) ?_
      obtain ⟨c6, hF⟩ := ck_u hF
      refine bz_iald C h k5 c6 (kx := x1_.toNatClampNeg) rfl dX6_queue_22 ?_
      refine lv_goto (tgt := 28) hx hb dX6_queue_23 (by decide) ?_
      exact bz_iret C h hlocks hr hF dX6_queue_28
  · have hF := it_f hF c1
    refine lv_bipush (v := (-2)) hx hb dX6_queue_4 (by decide) ?_
    exact bz_iret C h hlocks hr hF dX6_queue_6
set_option maxHeartbeats 4000000 in
set_option maxRecDepth 100000 in
theorem c_X6_whyNot {l : Launch} {G : bz_G} {σ : bz_W} {a0 : Nat} {x1_ : Int32} (ka0 : bz_k G a0 = (7, 0)) {res : Int32 × bz_W} (hF : f_X6_whyNot σ a0 x1_ = some res) : bz_M l yX6_whyNot wz_X6_whyNot 4 86 G σ [.ref a0, .int x1_] (some (.int res.1)) res.2 := by
  refine bz_mk (cc := cX6_whyNot) (maxL := 3) (ret := (some .int)) (own := RX6) (by decide) rfl rfl (Nat.le_of_ble_eq_true rfl) ?_
  intro p e s m args below meth c ls C hlocks hr h hl
  have hx := C.1
  have hb := C.2.1
  have hts := C.2.2.2.2.1
  have hl : lv_has ls 3 [(0, .ref a0), (1, .int x1_)] := hl
  obtain ⟨H, eH⟩ : ∃ y, y = s.heap := ⟨_, rfl⟩
  obtain ⟨locs, el⟩ : ∃ y : List Loc, y = [] := ⟨_, rfl⟩
  rw [← el, ← eH] at h ⊢
  unfold f_X6_whyNot at hF
  refine lv_aload_n hx hb dX6_whyNot_0 rfl (lv_at hl 0 rfl) ?_
  refine gf_6_0 C h ka0 iz_X6 (List.mem_cons_of_mem _ wd_1_12) dX6_whyNot_1 (fun k1 => ?_)
  refine lv_iload_n hx hb dX6_whyNot_4 rfl (lv_at hl 1 rfl) ?_
  obtain ⟨r2, σ3, qr2, hF⟩ := bd_u hF
  have h0 := h
  refine bz_callV (rest := []) (st1 := [bz_rv r2]) C h (As := [.int x1_]) (o := some (bz_rv r2)) (τ := σ3) (c_X3_find (l := l) k1 (res := (r2, σ3)) qr2) k1 (by decide) (ci := 3) rfl (cwV 1 hts (bz_gV wd_8_11 wd_8_12 wd_8_13 wd_1_11 wd_8_14) rfl rfl rfl (by decide +kernel) ⟨Nat.le_of_ble_eq_true rfl, Nat.le_of_ble_eq_true rfl⟩) rfl hl.1 rfl (by decide) ⟨Nat.le_of_ble_eq_true rfl, Nat.le_of_ble_eq_true rfl⟩ dX6_whyNot_5 rfl (fun H locs h => ?_)
  by_cases zr2 : r2 = 0
  · have hF := it_t hF zr2
    rw [show bz_rv r2 = .null by rw [zr2]; rfl]
    refine lv_astore_nN (lv' := [(2, .null), (0, .ref a0), (1, .int x1_)]) hx hb dX6_whyNot_8 rfl hl (by decide) rfl (fun ls hl => ?_)
    refine lv_aload_nN hx hb dX6_whyNot_9 rfl (lv_at hl 0 rfl) ?_
    refine lv_ifnonnullN hx hb dX6_whyNot_10 ?_
    refine lv_iconst (v := (-1)) hx hb dX6_whyNot_13 (by decide) ?_
    exact bz_iret C h hlocks hr hF dX6_whyNot_14
  · have hF := it_f hF zr2
    have kr2 := kd_X3_find k1 h0.2.1 qr2 zr2
    rw [bz_rv0 C.2.2.2.2.2.1.2.2.2 kr2 (by decide)]
    refine lv_astore_n (lv' := [(2, .ref r2), (0, .ref a0), (1, .int x1_)]) hx hb dX6_whyNot_8 rfl hl (by decide) rfl (fun ls hl => ?_)
    refine lv_aload_n hx hb dX6_whyNot_9 rfl (lv_at hl 0 rfl) ?_
    refine lv_ifnonnull (tgt := 15) hx hb dX6_whyNot_10 (by decide) ?_
    refine lv_aload_n hx hb dX6_whyNot_15 rfl (lv_at hl 0 rfl) ?_
    refine gf_2_8 C h kr2 iz_X2 (List.mem_cons_of_mem _ wd_7_11) dX6_whyNot_16 ?_
    refine lv_iconst (v := 1) hx hb dX6_whyNot_19 (by decide) ?_
    refine lv_icmp_ne (tgt := 34) hx hb dX6_whyNot_20 (by decide) (fun c4 => ?_) (fun c4 => ?_)
    · have hF := it_f hF c4
      refine lv_bipush (v := (-4)) hx hb dX6_whyNot_34 (by decide) ?_
      exact bz_iret C h hlocks hr hF dX6_whyNot_36
    · have hF := it_t hF c4
      refine lv_aload_n hx hb dX6_whyNot_23 rfl (lv_at hl 1 rfl) ?_
      refine gf_6_0 C h ka0 iz_X6 (List.mem_cons_of_mem _ wd_1_12) dX6_whyNot_24 (fun k5 => ?_)
      refine lv_aload_n hx hb dX6_whyNot_27 rfl (lv_at hl 0 rfl) ?_
      obtain ⟨r6, σ7, qr6, hF⟩ := bd_u hF
      refine bz_callV (rest := []) (st1 := [.int r6]) C h (As := [.ref r2]) (o := some (.int r6)) (τ := σ7) (c_X3_reasonAgainst (l := l) k5 kr2 (res := (r6, σ7)) qr6) k5 (by decide) (ci := 3) rfl (cwV 1 hts (bz_gV wd_18_15 wd_18_16 wd_18_17 wd_1_11 wd_18_18) rfl rfl rfl (by decide +kernel) ⟨Nat.le_of_ble_eq_true rfl, Nat.le_of_ble_eq_true rfl⟩) rfl hl.1 rfl (by decide) ⟨Nat.le_of_ble_eq_true rfl, Nat.le_of_ble_eq_true rfl⟩ dX6_whyNot_28 rfl (fun H locs h => ?_)
      refine lv_goto (tgt := 36) hx hb dX6_whyNot_31 (by decide) ?_
      exact bz_iret C h hlocks hr hF dX6_whyNot_36
set_option maxHeartbeats 4000000 in
set_option maxRecDepth 100000 in
theorem c_X6_event {l : Launch} {G : bz_G} {σ : bz_W} {a0 : Nat} {x1_ : Int32} {x2_ : Int32} (ka0 : bz_k G a0 = (7, 0)) {res : Int32 × bz_W} (hF : f_X6_event σ a0 x1_ x2_ = some res) : bz_M l yX6_event wz_X6_event 2 47 G σ [.ref a0, .int x1_, .int x2_] (some (.int res.1)) res.2 := by
  refine bz_mk (cc := cX6_event) (maxL := 3) (ret := (some .int)) (own := RX6) (by decide) rfl rfl (Nat.le_of_ble_eq_true rfl) ?_
  intro p e s m args below meth c ls C hlocks hr h hl
  have hx := C.1
  have hb := C.2.1
  have hts := C.2.2.2.2.1
  have hl : lv_has ls 3 [(0, .ref a0), (1, .int x1_), (2, .int x2_)] := hl
  obtain ⟨H, eH⟩ : ∃ y, y = s.heap := ⟨_, rfl⟩
  obtain ⟨locs, el⟩ : ∃ y : List Loc, y = [] := ⟨_, rfl⟩
  rw [← el, ← eH] at h ⊢
  unfold f_X6_event at hF
  refine lv_iload_n hx hb dX6_event_0 rfl (lv_at hl 1 rfl) ?_
  refine lv_if_lt (tgt := 13) hx hb dX6_event_1 (by decide) (fun c1 => ?_) (fun c1 => ?_)
  · have hF := it_t hF c1
    refine lv_bipush (v := (-2)) hx hb dX6_event_13 (by decide) ?_
    exact bz_iret C h hlocks hr hF dX6_event_15
  · have hF := it_f hF c1
    refine lv_iload_n hx hb dX6_event_4 rfl (lv_at hl 2 rfl) ?_
    refine lv_iconst (v := 0) hx hb dX6_event_5 (by decide) ?_
    refine lv_iconst (v := 2) hx hb dX6_event_6 (by decide) ?_
    obtain ⟨r2, σ3, qr2, hF⟩ := bd_u hF
    refine bz_callS (rest := []) (st1 := [.int r2]) C h (As := [.int x2_, .int 0, .int 2]) (o := some (.int r2)) (τ := σ3) (c_X6_isOutside (l := l)  (res := (r2, σ3)) qr2) (va_cwS 3 hts (bz_gS wd_9_1 wd_9_2 wd_1_2 wd_9_3) rfl rfl rfl (by decide +kernel) ⟨Nat.le_of_ble_eq_true rfl, Nat.le_of_ble_eq_true rfl⟩) rfl hl.1 rfl (by decide) ⟨Nat.le_of_ble_eq_true rfl, Nat.le_of_ble_eq_true rfl⟩ dX6_event_7 rfl (fun H locs h => ?_)
    refine lv_if_eq (tgt := 16) hx hb dX6_event_10 (by decide) (fun c4 => ?_) (fun c4 => ?_)
    · have hF := it_t hF c4
      refine lv_aload_n hx hb dX6_event_16 rfl (lv_at hl 0 rfl) ?_
      refine gf_6_0 C h ka0 iz_X6 (List.mem_cons_of_mem _ wd_1_12) dX6_event_17 (fun k5 => ?_)
      refine gf_3_2 C h k5 iz_X3 (List.mem_cons_of_mem _ wd_11_0) dX6_event_20 (fun k6 => ?_)
      refine lv_iload_n hx hb dX6_event_23 rfl (lv_at hl 1 rfl) ?_
      refine lv_iload_n hx hb dX6_event_24 rfl (lv_at hl 2 rfl) ?_
      obtain ⟨r7, σ8, qr7, hF⟩ := bd_u hF
      refine bz_callV (rest := []) (st1 := [.int r7]) C h (As := [.int x1_, .int x2_]) (o := some (.int r7)) (τ := σ8) (c_X0_tell (l := l) k6 (res := (r7, σ8)) qr7) k6 (by decide) (ci := 0) rfl (cwV 2 hts (bz_gV wd_11_1 wd_11_2 wd_11_3 wd_2_16 wd_11_4) rfl rfl rfl (by decide +kernel) ⟨Nat.le_of_ble_eq_true rfl, Nat.le_of_ble_eq_true rfl⟩) rfl hl.1 rfl (by decide) ⟨Nat.le_of_ble_eq_true rfl, Nat.le_of_ble_eq_true rfl⟩ dX6_event_25 rfl (fun H locs h => ?_)
      exact bz_iret C h hlocks hr hF dX6_event_28
    · have hF := it_f hF c4
      refine lv_bipush (v := (-2)) hx hb dX6_event_13 (by decide) ?_
      exact bz_iret C h hlocks hr hF dX6_event_15
set_option maxHeartbeats 4000000 in
set_option maxRecDepth 100000 in
theorem c_X6_startHeat {l : Launch} {G : bz_G} {σ : bz_W} {a0 : Nat} {x1_ : Int32} (ka0 : bz_k G a0 = (7, 0)) {res : Int32 × bz_W} (hF : f_X6_startHeat σ a0 x1_ = some res) : bz_M l yX6_startHeat wz_X6_startHeat 1 21 G σ [.ref a0, .int x1_] (some (.int res.1)) res.2 := by
  refine bz_mk (cc := cX6_startHeat) (maxL := 3) (ret := (some .int)) (own := RX6) (by decide) rfl rfl (Nat.le_of_ble_eq_true rfl) ?_
  intro p e s m args below meth c ls C hlocks hr h hl
  have hx := C.1
  have hb := C.2.1
  have hts := C.2.2.2.2.1
  have hl : lv_has ls 3 [(0, .ref a0), (1, .int x1_)] := hl
  obtain ⟨H, eH⟩ : ∃ y, y = s.heap := ⟨_, rfl⟩
  obtain ⟨locs, el⟩ : ∃ y : List Loc, y = [] := ⟨_, rfl⟩
  rw [← el, ← eH] at h ⊢
  unfold f_X6_startHeat at hF
  refine lv_aload_n hx hb dX6_startHeat_0 rfl (lv_at hl 0 rfl) ?_
  refine gf_6_0 C h ka0 iz_X6 (List.mem_cons_of_mem _ wd_1_12) dX6_startHeat_1 (fun k1 => ?_)
  refine lv_iload_n hx hb dX6_startHeat_4 rfl (lv_at hl 1 rfl) ?_
  obtain ⟨r2, σ3, qr2, hF⟩ := bd_u hF
  have h0 := h
  refine bz_callV (rest := []) (st1 := [bz_rv r2]) C h (As := [.int x1_]) (o := some (bz_rv r2)) (τ := σ3) (c_X3_find (l := l) k1 (res := (r2, σ3)) qr2) k1 (by decide) (ci := 3) rfl (cwV 1 hts (bz_gV wd_8_11 wd_8_12 wd_8_13 wd_1_11 wd_8_14) rfl rfl rfl (by decide +kernel) ⟨Nat.le_of_ble_eq_true rfl, Nat.le_of_ble_eq_true rfl⟩) rfl hl.1 rfl (by decide) ⟨Nat.le_of_ble_eq_true rfl, Nat.le_of_ble_eq_true rfl⟩ dX6_startHeat_5 rfl (fun H locs h => ?_)
  by_cases zr2 : r2 = 0
  · have hF := it_t hF zr2
    rw [show bz_rv r2 = .null by rw [zr2]; rfl]
    refine lv_astore_nN (lv' := [(2, .null), (0, .ref a0), (1, .int x1_)]) hx hb dX6_startHeat_8 rfl hl (by decide) rfl (fun ls hl => ?_)
    refine lv_aload_nN hx hb dX6_startHeat_9 rfl (lv_at hl 0 rfl) ?_
    refine lv_ifnonnullN hx hb dX6_startHeat_10 ?_
    refine lv_iconst (v := (-1)) hx hb dX6_startHeat_13 (by decide) ?_
    refine lv_goto (tgt := 21) hx hb dX6_startHeat_14 (by decide) ?_
    exact bz_iret C h hlocks hr hF dX6_startHeat_21
  · have hF := it_f hF zr2
    have kr2 := kd_X3_find k1 h0.2.1 qr2 zr2
    rw [bz_rv0 C.2.2.2.2.2.1.2.2.2 kr2 (by decide)]
    refine lv_astore_n (lv' := [(2, .ref r2), (0, .ref a0), (1, .int x1_)]) hx hb dX6_startHeat_8 rfl hl (by decide) rfl (fun ls hl => ?_)
    refine lv_aload_n hx hb dX6_startHeat_9 rfl (lv_at hl 0 rfl) ?_
    refine lv_ifnonnull (tgt := 17) hx hb dX6_startHeat_10 (by decide) ?_
    refine lv_aload_n hx hb dX6_startHeat_17 rfl (lv_at hl 0 rfl) ?_
    refine gf_2_6 C h kr2 iz_X2 (List.mem_cons_of_mem _ wd_24_17) dX6_startHeat_18 ?_
    exact bz_iret C h hlocks hr hF dX6_startHeat_21
set_option maxHeartbeats 4000000 in
set_option maxRecDepth 100000 in
theorem c_X6_count {l : Launch} {G : bz_G} {σ : bz_W} {a0 : Nat} {x1_ : Int32} (ka0 : bz_k G a0 = (7, 0)) {res : Int32 × bz_W} (hF : f_X6_count σ a0 x1_ = some res) : bz_M l yX6_count wz_X6_count 3 64 G σ [.ref a0, .int x1_] (some (.int res.1)) res.2 := by
  refine bz_mk (cc := cX6_count) (maxL := 2) (ret := (some .int)) (own := RX6) (by decide) rfl rfl (Nat.le_of_ble_eq_true rfl) ?_
  intro p e s m args below meth c ls C hlocks hr h hl
  have hx := C.1
  have hb := C.2.1
  have hts := C.2.2.2.2.1
  have hl : lv_has ls 2 [(0, .ref a0), (1, .int x1_)] := hl
  obtain ⟨H, eH⟩ : ∃ y, y = s.heap := ⟨_, rfl⟩
  obtain ⟨locs, el⟩ : ∃ y : List Loc, y = [] := ⟨_, rfl⟩
  rw [← el, ← eH] at h ⊢
  unfold f_X6_count at hF
  refine lv_iload_n hx hb dX6_count_0 rfl (lv_at hl 1 rfl) ?_
  obtain ⟨j2, ej2, hF⟩ := lt_j hF
  have hj2 : ∀ (σ1 : bz_W) (H : Heap) (locs : List Loc) (ls : Array Slot), j2 σ1 = some res → bz_H G s σ1 H locs → lv_has ls 2 [(0, .ref a0), (1, .int x1_)] → W p l e ({ frames := 3, cells := 0, slots := 0, locals := 64 } : Room) s m args below meth c H locs 0 0 (MQ below (bz_Qc G (some (.int res.1)) res.2) args s 0 0 (bz_A G)) (F0 m 96 ls []) := by
      intro σ1 H locs ls hF h hl
      subst ej2
      refine lv_aload_n hx hb dX6_count_96 rfl (lv_at hl 0 rfl) ?_
      refine gf_6_0 C h ka0 iz_X6 (List.mem_cons_of_mem _ wd_1_12) dX6_count_97 (fun k3 => ?_)
      refine lv_iload_n hx hb dX6_count_100 rfl (lv_at hl 1 rfl) ?_
      obtain ⟨r4, σ5, qr4, hF⟩ := bd_u hF
      refine bz_callV (rest := []) (st1 := [.int r4]) C h (As := [.int x1_]) (o := some (.int r4)) (τ := σ5) (c_X3_motorsInMode (l := l) k3 (res := (r4, σ5)) qr4) k3 (by decide) (ci := 3) rfl (cwV 1 hts (bz_gV wd_16_10 wd_16_11 wd_16_12 wd_1_11 wd_16_13) rfl rfl rfl (by decide +kernel) ⟨Nat.le_of_ble_eq_true rfl, Nat.le_of_ble_eq_true rfl⟩) rfl hl.1 rfl (by decide) ⟨Nat.le_of_ble_eq_true rfl, Nat.le_of_ble_eq_true rfl⟩ dX6_count_101 rfl (fun H locs h => ?_)
      exact bz_iret C h hlocks hr hF dX6_count_104
  by_cases c6 : x1_ = 0
  · have hF := it_t hF c6
    refine lv_tableIn (tgt := 88) hx hb dX6_count_1 (by rw [c6]; decide) (by rw [c6]; decide) (by rw [c6]; rfl) (by decide) ?_
    refine lv_aload_n hx hb dX6_count_88 rfl (lv_at hl 0 rfl) ?_
    refine gf_6_0 C h ka0 iz_X6 (List.mem_cons_of_mem _ wd_1_12) dX6_count_89 (fun k7 => ?_)
    refine gf_3_3 C h k7 iz_X3 (List.mem_cons_of_mem _ wd_7_9) dX6_count_92 ?_
    exact bz_iret C h hlocks hr hF dX6_count_95
  have hF := it_f hF c6
  by_cases c8 : x1_ = 1
  · have hF := it_t hF c8
    refine lv_tableIn (tgt := 96) hx hb dX6_count_1 (by rw [c8]; decide) (by rw [c8]; decide) (by rw [c8]; rfl) (by decide) ?_
    exact hj2 _ H locs ls hF h (lv_sub hl [0, 1] rfl)
  have hF := it_f hF c8
  by_cases c9 : x1_ = 2
  · have hF := it_t hF c9
    refine lv_tableIn (tgt := 96) hx hb dX6_count_1 (by rw [c9]; decide) (by rw [c9]; decide) (by rw [c9]; rfl) (by decide) ?_
    exact hj2 _ H locs ls hF h (lv_sub hl [0, 1] rfl)
  have hF := it_f hF c9
  by_cases c10 : x1_ = 3
  · have hF := it_t hF c10
    refine lv_tableIn (tgt := 96) hx hb dX6_count_1 (by rw [c10]; decide) (by rw [c10]; decide) (by rw [c10]; rfl) (by decide) ?_
    exact hj2 _ H locs ls hF h (lv_sub hl [0, 1] rfl)
  have hF := it_f hF c10
  by_cases c11 : x1_ = 4
  · have hF := it_t hF c11
    refine lv_tableIn (tgt := 96) hx hb dX6_count_1 (by rw [c11]; decide) (by rw [c11]; decide) (by rw [c11]; rfl) (by decide) ?_
    exact hj2 _ H locs ls hF h (lv_sub hl [0, 1] rfl)
  have hF := it_f hF c11
  by_cases c12 : x1_ = 5
  · have hF := it_t hF c12
    refine lv_tableIn (tgt := 105) hx hb dX6_count_1 (by rw [c12]; decide) (by rw [c12]; decide) (by rw [c12]; rfl) (by decide) ?_
    refine lv_aload_n hx hb dX6_count_105 rfl (lv_at hl 0 rfl) ?_
    refine gf_6_0 C h ka0 iz_X6 (List.mem_cons_of_mem _ wd_1_12) dX6_count_106 (fun k13 => ?_)
    refine gf_3_4 C h k13 iz_X3 (List.mem_cons_of_mem _ wd_6_15) dX6_count_109 ?_
    exact bz_iret C h hlocks hr hF dX6_count_112
  have hF := it_f hF c12
  by_cases c14 : x1_ = 6
  · have hF := it_t hF c14
    refine lv_tableIn (tgt := 113) hx hb dX6_count_1 (by rw [c14]; decide) (by rw [c14]; decide) (by rw [c14]; rfl) (by decide) ?_
    refine lv_aload_n hx hb dX6_count_113 rfl (lv_at hl 0 rfl) ?_
    refine gf_6_0 C h ka0 iz_X6 (List.mem_cons_of_mem _ wd_1_12) dX6_count_114 (fun k15 => ?_)
    refine gf_3_5 C h k15 iz_X3 (List.mem_cons_of_mem _ wd_16_6) dX6_count_117 ?_
    exact bz_iret C h hlocks hr hF dX6_count_120
  have hF := it_f hF c14
  by_cases c16 : x1_ = 7
  · have hF := it_t hF c16
    refine lv_tableIn (tgt := 121) hx hb dX6_count_1 (by rw [c16]; decide) (by rw [c16]; decide) (by rw [c16]; rfl) (by decide) ?_
    refine lv_aload_n hx hb dX6_count_121 rfl (lv_at hl 0 rfl) ?_
    refine gf_6_0 C h ka0 iz_X6 (List.mem_cons_of_mem _ wd_1_12) dX6_count_122 (fun k17 => ?_)
    refine gf_3_6 C h k17 iz_X3 (List.mem_cons_of_mem _ wd_8_10) dX6_count_125 ?_
    refine lv_if_eq (tgt := 135) hx hb dX6_count_128 (by decide) (fun c18 => ?_) (fun c18 => ?_)
    · have hF := it_t hF c18
      refine lv_iconst (v := 0) hx hb dX6_count_135 (by decide) ?_
      exact bz_iret C h hlocks hr hF dX6_count_136
    · have hF := it_f hF c18
      refine lv_iconst (v := 1) hx hb dX6_count_131 (by decide) ?_
      refine lv_goto (tgt := 136) hx hb dX6_count_132 (by decide) ?_
      exact bz_iret C h hlocks hr hF dX6_count_136
  have hF := it_f hF c16
  by_cases c19 : x1_ = 8
  · have hF := it_t hF c19
    refine lv_tableIn (tgt := 137) hx hb dX6_count_1 (by rw [c19]; decide) (by rw [c19]; decide) (by rw [c19]; rfl) (by decide) ?_
    refine lv_aload_n hx hb dX6_count_137 rfl (lv_at hl 0 rfl) ?_
    refine gf_6_7 C h ka0 iz_X6 (List.mem_cons_of_mem _ wd_8_19) dX6_count_138 ?_
    exact bz_iret C h hlocks hr hF dX6_count_141
  have hF := it_f hF c19
  by_cases c20 : x1_ = 9
  · have hF := it_t hF c20
    refine lv_tableIn (tgt := 142) hx hb dX6_count_1 (by rw [c20]; decide) (by rw [c20]; decide) (by rw [c20]; rfl) (by decide) ?_
    refine lv_aload_n hx hb dX6_count_142 rfl (lv_at hl 0 rfl) ?_
    refine gf_6_0 C h ka0 iz_X6 (List.mem_cons_of_mem _ wd_1_12) dX6_count_143 (fun k21 => ?_)
    refine gf_3_1 C h k21 iz_X3 (List.mem_cons_of_mem _ wd_11_14) dX6_count_146 (fun k22 => ?_)
    obtain ⟨r23, σ24, qr23, hF⟩ := bd_u hF
    refine bz_callV (rest := []) (st1 := [.int r23]) C h (As := []) (o := some (.int r23)) (τ := σ24) (c_X4_left (l := l) k22 (res := (r23, σ24)) qr23) k22 (by decide) (ci := 4) rfl (cwV 0 hts (bz_gV wd_15_22 wd_15_23 wd_16_0 wd_2_0 wd_16_1) rfl rfl rfl (by decide +kernel) ⟨Nat.le_of_ble_eq_true rfl, Nat.le_of_ble_eq_true rfl⟩) rfl hl.1 rfl (by decide) ⟨Nat.le_of_ble_eq_true rfl, Nat.le_of_ble_eq_true rfl⟩ dX6_count_149 rfl (fun H locs h => ?_)
    exact bz_iret C h hlocks hr hF dX6_count_152
  have hF := it_f hF c20
  by_cases c25 : x1_ = 10
  · have hF := it_t hF c25
    refine lv_tableIn (tgt := 153) hx hb dX6_count_1 (by rw [c25]; decide) (by rw [c25]; decide) (by rw [c25]; rfl) (by decide) ?_
    refine lv_aload_n hx hb dX6_count_153 rfl (lv_at hl 0 rfl) ?_
    refine gf_6_0 C h ka0 iz_X6 (List.mem_cons_of_mem _ wd_1_12) dX6_count_154 (fun k26 => ?_)
    refine gf_3_7 C h k26 iz_X3 (List.mem_cons_of_mem _ wd_16_7) dX6_count_157 ?_
    exact bz_iret C h hlocks hr hF dX6_count_160
  have hF := it_f hF c25
  by_cases c27 : x1_ = 11
  · have hF := it_t hF c27
    refine lv_tableIn (tgt := 161) hx hb dX6_count_1 (by rw [c27]; decide) (by rw [c27]; decide) (by rw [c27]; rfl) (by decide) ?_
    refine lv_aload_n hx hb dX6_count_161 rfl (lv_at hl 0 rfl) ?_
    refine gf_6_0 C h ka0 iz_X6 (List.mem_cons_of_mem _ wd_1_12) dX6_count_162 (fun k28 => ?_)
    refine lv_iconst (v := 0) hx hb dX6_count_165 (by decide) ?_
    obtain ⟨r29, σ30, qr29, hF⟩ := bd_u hF
    refine bz_callV (rest := []) (st1 := [.int r29]) C h (As := [.int 0]) (o := some (.int r29)) (τ := σ30) (c_X3_sumOfAccount (l := l) k28 (res := (r29, σ30)) qr29) k28 (by decide) (ci := 3) rfl (cwV 1 hts (bz_gV wd_16_15 wd_16_16 wd_16_17 wd_1_11 wd_16_18) rfl rfl rfl (by decide +kernel) ⟨Nat.le_of_ble_eq_true rfl, Nat.le_of_ble_eq_true rfl⟩) rfl hl.1 rfl (by decide) ⟨Nat.le_of_ble_eq_true rfl, Nat.le_of_ble_eq_true rfl⟩ dX6_count_166 rfl (fun H locs h => ?_)
    exact bz_iret C h hlocks hr hF dX6_count_169
  have hF := it_f hF c27
  by_cases c31 : x1_ = 12
  · have hF := it_t hF c31
    refine lv_tableIn (tgt := 170) hx hb dX6_count_1 (by rw [c31]; decide) (by rw [c31]; decide) (by rw [c31]; rfl) (by decide) ?_
    refine lv_aload_n hx hb dX6_count_170 rfl (lv_at hl 0 rfl) ?_
    refine gf_6_0 C h ka0 iz_X6 (List.mem_cons_of_mem _ wd_1_12) dX6_count_171 (fun k32 => ?_)
    refine lv_iconst (v := 1) hx hb dX6_count_174 (by decide) ?_
    obtain ⟨r33, σ34, qr33, hF⟩ := bd_u hF
    refine bz_callV (rest := []) (st1 := [.int r33]) C h (As := [.int 1]) (o := some (.int r33)) (τ := σ34) (c_X3_sumOfAccount (l := l) k32 (res := (r33, σ34)) qr33) k32 (by decide) (ci := 3) rfl (cwV 1 hts (bz_gV wd_16_15 wd_16_16 wd_16_17 wd_1_11 wd_16_18) rfl rfl rfl (by decide +kernel) ⟨Nat.le_of_ble_eq_true rfl, Nat.le_of_ble_eq_true rfl⟩) rfl hl.1 rfl (by decide) ⟨Nat.le_of_ble_eq_true rfl, Nat.le_of_ble_eq_true rfl⟩ dX6_count_175 rfl (fun H locs h => ?_)
    exact bz_iret C h hlocks hr hF dX6_count_178
  have hF := it_f hF c31
  by_cases c35 : x1_ = 13
  · have hF := it_t hF c35
    refine lv_tableIn (tgt := 179) hx hb dX6_count_1 (by rw [c35]; decide) (by rw [c35]; decide) (by rw [c35]; rfl) (by decide) ?_
    refine lv_aload_n hx hb dX6_count_179 rfl (lv_at hl 0 rfl) ?_
    refine gf_6_0 C h ka0 iz_X6 (List.mem_cons_of_mem _ wd_1_12) dX6_count_180 (fun k36 => ?_)
    obtain ⟨r37, σ38, qr37, hF⟩ := bd_u hF
    refine bz_callV (rest := []) (st1 := [.int r37]) C h (As := []) (o := some (.int r37)) (τ := σ38) (c_X3_sumOfHeat (l := l) k36 (res := (r37, σ38)) qr37) k36 (by decide) (ci := 3) rfl (cwV 0 hts (bz_gV wd_16_20 wd_16_21 wd_16_22 wd_1_11 wd_16_23) rfl rfl rfl (by decide +kernel) ⟨Nat.le_of_ble_eq_true rfl, Nat.le_of_ble_eq_true rfl⟩) rfl hl.1 rfl (by decide) ⟨Nat.le_of_ble_eq_true rfl, Nat.le_of_ble_eq_true rfl⟩ dX6_count_183 rfl (fun H locs h => ?_)
    exact bz_iret C h hlocks hr hF dX6_count_186
  have hF := it_f hF c35
  by_cases c39 : x1_ = 14
  · have hF := it_t hF c39
    refine lv_tableIn (tgt := 187) hx hb dX6_count_1 (by rw [c39]; decide) (by rw [c39]; decide) (by rw [c39]; rfl) (by decide) ?_
    refine lv_aload_n hx hb dX6_count_187 rfl (lv_at hl 0 rfl) ?_
    refine gf_6_0 C h ka0 iz_X6 (List.mem_cons_of_mem _ wd_1_12) dX6_count_188 (fun k40 => ?_)
    obtain ⟨r41, σ42, qr41, hF⟩ := bd_u hF
    refine bz_callV (rest := []) (st1 := [.int r41]) C h (As := []) (o := some (.int r41)) (τ := σ42) (c_X3_sumOfDraws (l := l) k40 (res := (r41, σ42)) qr41) k40 (by decide) (ci := 3) rfl (cwV 0 hts (bz_gV wd_17_1 wd_17_2 wd_17_3 wd_1_11 wd_17_4) rfl rfl rfl (by decide +kernel) ⟨Nat.le_of_ble_eq_true rfl, Nat.le_of_ble_eq_true rfl⟩) rfl hl.1 rfl (by decide) ⟨Nat.le_of_ble_eq_true rfl, Nat.le_of_ble_eq_true rfl⟩ dX6_count_191 rfl (fun H locs h => ?_)
    exact bz_iret C h hlocks hr hF dX6_count_194
  have hF := it_f hF c39
  by_cases c43 : x1_ = 15
  · have hF := it_t hF c43
    refine lv_tableIn (tgt := 195) hx hb dX6_count_1 (by rw [c43]; decide) (by rw [c43]; decide) (by rw [c43]; rfl) (by decide) ?_
    refine lv_aload_n hx hb dX6_count_195 rfl (lv_at hl 0 rfl) ?_
    refine gf_6_0 C h ka0 iz_X6 (List.mem_cons_of_mem _ wd_1_12) dX6_count_196 (fun k44 => ?_)
    refine gf_3_2 C h k44 iz_X3 (List.mem_cons_of_mem _ wd_11_0) dX6_count_199 (fun k45 => ?_)
    refine gf_0_3 C h k45 iz_X0 (List.mem_cons_of_mem _ wd_16_8) dX6_count_202 ?_
    exact bz_iret C h hlocks hr hF dX6_count_205
  have hF := it_f hF c43
  by_cases c46 : x1_ = 16
  · have hF := it_t hF c46
    refine lv_tableIn (tgt := 206) hx hb dX6_count_1 (by rw [c46]; decide) (by rw [c46]; decide) (by rw [c46]; rfl) (by decide) ?_
    refine lv_aload_n hx hb dX6_count_206 rfl (lv_at hl 0 rfl) ?_
    refine gf_6_1 C h ka0 iz_X6 (List.mem_cons_of_mem _ wd_1_16) dX6_count_207 (fun k47 => ?_)
    refine gf_1_1 C h k47 iz_X1 (List.mem_cons_of_mem _ wd_4_10) dX6_count_210 ?_
    exact bz_iret C h hlocks hr hF dX6_count_213
  have hF := it_f hF c46
  by_cases c48 : x1_ = 17
  · have hF := it_t hF c48
    refine lv_tableIn (tgt := 214) hx hb dX6_count_1 (by rw [c48]; decide) (by rw [c48]; decide) (by rw [c48]; rfl) (by decide) ?_
    refine lv_aload_n hx hb dX6_count_214 rfl (lv_at hl 0 rfl) ?_
    refine gf_6_4 C h ka0 iz_X6 (List.mem_cons_of_mem _ wd_1_21) dX6_count_215 (fun k49 => ?_)
    refine gf_5_1 C h k49 iz_X5 (List.mem_cons_of_mem _ wd_16_9) dX6_count_218 ?_
    exact bz_iret C h hlocks hr hF dX6_count_221
  have hF := it_f hF c48
  refine lv_tableOut (tgt := 222) hx hb dX6_count_1 (bz_out18 c6 c8 c9 c10 c11 c12 c14 c16 c19 c20 c25 c27 c31 c35 c39 c43 c46 c48) (by decide) ?_
  refine lv_bipush (v := (-2)) hx hb dX6_count_222 (by decide) ?_
  exact bz_iret C h hlocks hr hF dX6_count_224
set_option maxHeartbeats 4000000 in
set_option maxRecDepth 100000 in
theorem c_L_low {l : Launch} {G : bz_G} {σ : bz_W} {x0_ : Int32} {x1_ : Int32}  {res : Int32 × bz_W} (hF : f_L_low σ x0_ x1_ = some res) : bz_M l yL_low wz_L_low 0 0 G σ [.int x0_, .int x1_] (some (.int res.1)) res.2 := by
  refine bz_mk (cc := cL_low) (maxL := 2) (ret := (some .int)) (own := RL) (by decide) rfl rfl (Nat.le_of_ble_eq_true rfl) ?_
  intro p e s m args below meth c ls C hlocks hr h hl
  have hx := C.1
  have hb := C.2.1
  have hts := C.2.2.2.2.1
  have hl : lv_has ls 2 [(0, .int x0_), (1, .int x1_)] := hl
  obtain ⟨H, eH⟩ : ∃ y, y = s.heap := ⟨_, rfl⟩
  obtain ⟨locs, el⟩ : ∃ y : List Loc, y = [] := ⟨_, rfl⟩
  rw [← el, ← eH] at h ⊢
  unfold f_L_low at hF
  refine lv_iload_n hx hb dL_low_0 rfl (lv_at hl 0 rfl) ?_
  refine lv_ldc (v := 2147483647) hx hb C.2.2.2.1 (hts _ (List.mem_cons_of_mem _ wd_20_20)) dL_low_1 ?_
  refine lv_iand hx hb dL_low_3 ?_
  refine lv_iload_n hx hb dL_low_4 rfl (lv_at hl 1 rfl) ?_
  obtain ⟨c1, hF⟩ := ck_u hF
  refine lv_irem hx hb dL_low_5 (by simpa using c1) ?_
  exact bz_iret C h hlocks hr hF dL_low_6
set_option maxHeartbeats 4000000 in
set_option maxRecDepth 100000 in
theorem L_L_digest_L6 {p : Program} {l : Launch} {e : Env} {s : State} {m : MethodId} {args : Array Value} {below : List Frame} {meth : Method} {c : Code} {G : bz_G} (C : bz_C p s m c args cL_digest 5 RL wz_L_digest G) (hlocks : meth.locks = false) (hr : meth.sig.returnType = (some .long)) {a0 : Nat} (ka0 : bz_k G a0 = (7, 0)) {k : Int64 → bz_W → Option (Int64 × bz_W)} {res : Int64 × bz_W} : ∀ (n : Nat) (v1 : Int64) (v3 : Int32) (σ : bz_W) (H : Heap) (locs : List Loc) (ls : Array Slot), f_L_digest_L6 a0 k n v1 v3 σ = some res → bz_H G s σ H locs → lv_has ls 5 [(0, .ref a0), (1, .long v1), (3, .int v3)] → (∀ (w1 : Int64) (σ : bz_W) (H : Heap) (locs : List Loc) (ls : Array Slot), k w1 σ = some res → bz_H G s σ H locs → lv_has ls 5 [(0, .ref a0), (1, .long w1)] → W p l e ({ frames := 4, cells := 0, slots := 0, locals := 85 } : Room) s m args below meth c H locs 0 0 (MQ below (bz_Qc G (some (.long res.1)) res.2) args s 0 0 (bz_A G)) (F0 m 41 ls [])) → W p l e ({ frames := 4, cells := 0, slots := 0, locals := 85 } : Room) s m args below meth c H locs 0 0 (MQ below (bz_Qc G (some (.long res.1)) res.2) args s 0 0 (bz_A G)) (F0 m 6 ls []) := by
  have hx := C.1
  have hb := C.2.1
  have hts := C.2.2.2.2.1
  intro n
  induction n with
  | zero =>
    intro v1 v3 σ H locs ls hF
    exact absurd hF (by simp [f_L_digest_L6])
  | succ n ih =>
    intro v1 v3 σ H locs ls hF h hl hk
    rw [f_L_digest_L6] at hF
    refine lv_iload_n hx hb dL_digest_6 rfl (lv_at hl 2 rfl) ?_
    refine lv_bipush (v := 16) hx hb dL_digest_7 (by decide) ?_
    refine lv_icmp_ge (tgt := 41) hx hb dL_digest_9 (by decide) (fun c2 => ?_) (fun c2 => ?_)
    · have hF := it_t hF c2
      exact hk _ _ H locs ls hF h (lv_sub hl [0, 1] rfl)
    · have hF := it_f hF c2
      refine lv_ldc2 (v := 31) hx hb C.2.2.2.1 (hts _ (List.mem_cons_of_mem _ wd_21_1)) dL_digest_12 ?_
      refine lv_lload_n hx hb dL_digest_15 rfl (lv_at hl 1 rfl) ?_
      refine lv_lmul hx hb dL_digest_16 ?_
      refine lv_iload_n hx hb dL_digest_17 rfl (lv_at hl 2 rfl) ?_
      refine lv_bipush (v := 8) hx hb dL_digest_18 (by decide) ?_
      obtain ⟨j5, ej5, hF⟩ := lt_j hF
      have hj5 : ∀ (y3 : Int32) (σ4 : bz_W) (H : Heap) (locs : List Loc) (ls : Array Slot), j5 y3 σ4 = some res → bz_H G s σ4 H locs → lv_has ls 5 [(0, .ref a0), (3, .int v3)] → W p l e ({ frames := 4, cells := 0, slots := 0, locals := 85 } : Room) s m args below meth c H locs 0 0 (MQ below (bz_Qc G (some (.long res.1)) res.2) args s 0 0 (bz_A G)) (F0 m 32 ls [.int y3, .long ((31 : Int64) * v1)]) := by
          intro y3 σ4 H locs ls hF h hl
          subst ej5
          refine lv_i2l hx hb dL_digest_32 rfl ?_
          refine lv_ladd hx hb dL_digest_33 ?_
          refine lv_topl (fun x6 ex6 => ?_)
          have hF := lt_u hF x6 ex6
          refine lv_lstore_n (lv' := [(1, .long x6), (0, .ref a0), (3, .int v3)]) hx hb dL_digest_34 rfl hl (by decide) rfl (fun ls hl => ?_)
          obtain ⟨x7, ex7⟩ : ∃ y : Int32, y = v3 + 1 := ⟨_, rfl⟩
          have hF := lt_u hF x7 ex7
          refine lv_iinc (v := x7) (lv' := [(3, .int x7), (1, .long x6), (0, .ref a0)]) hx hb dL_digest_35 hl (k := 2) rfl (by rw [ex7]; rfl) (by decide) rfl (fun ls hl => ?_)
          refine lv_goto (tgt := 6) hx hb dL_digest_38 (by decide) ?_
          exact ih _ _ _ H locs ls hF h (lv_sub hl [2, 1, 0] rfl) hk
      refine lv_icmp_ne (tgt := 27) hx hb dL_digest_20 (by decide) (fun c8 => ?_) (fun c8 => ?_)
      · have hF := it_f hF c8
        refine lv_aload_n hx hb dL_digest_27 rfl (lv_at hl 0 rfl) ?_
        refine lv_iload_n hx hb dL_digest_28 rfl (lv_at hl 2 rfl) ?_
        obtain ⟨r9, σ10, qr9, hF⟩ := bd_u hF
        refine bz_callV (rest := [.long ((31 : Int64) * v1)]) (st1 := [.int r9, .long ((31 : Int64) * v1)]) C h (As := [.int v3]) (o := some (.int r9)) (τ := σ10) (c_X6_count (l := l) ka0 (res := (r9, σ10)) qr9) ka0 (by decide) (ci := 6) rfl (cwV 1 hts (bz_gV wd_16_2 wd_16_3 wd_16_4 wd_1_2 wd_16_5) rfl rfl rfl (by decide +kernel) ⟨Nat.le_of_ble_eq_true rfl, Nat.le_of_ble_eq_true rfl⟩) rfl hl.1 rfl (Nat.le_of_ble_eq_true rfl) ⟨Nat.le_of_ble_eq_true rfl, Nat.le_of_ble_eq_true rfl⟩ dL_digest_29 rfl (fun H locs h => ?_)
        exact hj5 _ _ H locs ls hF h (lv_sub hl [0, 2] rfl)
      · have hF := it_t hF c8
        refine lv_iconst (v := 0) hx hb dL_digest_23 (by decide) ?_
        refine lv_goto (tgt := 32) hx hb dL_digest_24 (by decide) ?_
        exact hj5 _ _ H locs ls hF h (lv_sub hl [0, 2] rfl)
set_option maxHeartbeats 4000000 in
set_option maxRecDepth 100000 in
theorem L_L_digest_L55 {p : Program} {l : Launch} {e : Env} {s : State} {m : MethodId} {args : Array Value} {below : List Frame} {meth : Method} {c : Code} {G : bz_G} (C : bz_C p s m c args cL_digest 5 RL wz_L_digest G) (hlocks : meth.locks = false) (hr : meth.sig.returnType = (some .long)) {a0 : Nat} {a3 : Int32} (ka0 : bz_k G a0 = (7, 0)) {k : Int64 → bz_W → Option (Int64 × bz_W)} {res : Int64 × bz_W} : ∀ (n : Nat) (v1 : Int64) (v4 : Int32) (σ : bz_W) (H : Heap) (locs : List Loc) (ls : Array Slot), f_L_digest_L55 a0 a3 k n v1 v4 σ = some res → bz_H G s σ H locs → lv_has ls 5 [(0, .ref a0), (3, .int a3), (1, .long v1), (4, .int v4)] → (∀ (w1 : Int64) (σ : bz_W) (H : Heap) (locs : List Loc) (ls : Array Slot), k w1 σ = some res → bz_H G s σ H locs → lv_has ls 5 [(0, .ref a0), (1, .long w1), (3, .int a3)] → W p l e ({ frames := 4, cells := 0, slots := 0, locals := 85 } : Room) s m args below meth c H locs 0 0 (MQ below (bz_Qc G (some (.long res.1)) res.2) args s 0 0 (bz_A G)) (F0 m 83 ls [])) → W p l e ({ frames := 4, cells := 0, slots := 0, locals := 85 } : Room) s m args below meth c H locs 0 0 (MQ below (bz_Qc G (some (.long res.1)) res.2) args s 0 0 (bz_A G)) (F0 m 55 ls []) := by
  have hx := C.1
  have hb := C.2.1
  have hts := C.2.2.2.2.1
  intro n
  induction n with
  | zero =>
    intro v1 v4 σ H locs ls hF
    exact absurd hF (by simp [f_L_digest_L55])
  | succ n ih =>
    intro v1 v4 σ H locs ls hF h hl hk
    rw [f_L_digest_L55] at hF
    refine lv_iload hx hb dL_digest_55 (lv_at hl 3 rfl) ?_
    refine lv_bipush (v := 13) hx hb dL_digest_57 (by decide) ?_
    refine lv_icmp_ge (tgt := 83) hx hb dL_digest_59 (by decide) (fun c16 => ?_) (fun c16 => ?_)
    · have hF := it_t hF c16
      exact hk _ _ H locs ls hF h (lv_sub hl [0, 2, 1] rfl)
    · have hF := it_f hF c16
      refine lv_ldc2 (v := 31) hx hb C.2.2.2.1 (hts _ (List.mem_cons_of_mem _ wd_21_1)) dL_digest_62 ?_
      refine lv_lload_n hx hb dL_digest_65 rfl (lv_at hl 2 rfl) ?_
      refine lv_lmul hx hb dL_digest_66 ?_
      refine lv_aload_n hx hb dL_digest_67 rfl (lv_at hl 0 rfl) ?_
      refine lv_iload_n hx hb dL_digest_68 rfl (lv_at hl 1 rfl) ?_
      refine lv_iload hx hb dL_digest_69 (lv_at hl 3 rfl) ?_
      obtain ⟨r17, σ18, qr17, hF⟩ := bd_u hF
      refine bz_callV (rest := [.long ((31 : Int64) * v1)]) (st1 := [.int r17, .long ((31 : Int64) * v1)]) C h (As := [.int a3, .int v4]) (o := some (.int r17)) (τ := σ18) (c_X6_motor (l := l) ka0 (res := (r17, σ18)) qr17) ka0 (by decide) (ci := 6) rfl (cwV 2 hts (bz_gV wd_21_4 wd_21_5 wd_21_6 wd_1_2 wd_21_7) rfl rfl rfl (by decide +kernel) ⟨Nat.le_of_ble_eq_true rfl, Nat.le_of_ble_eq_true rfl⟩) rfl hl.1 rfl (Nat.le_of_ble_eq_true rfl) ⟨Nat.le_of_ble_eq_true rfl, Nat.le_of_ble_eq_true rfl⟩ dL_digest_71 rfl (fun H locs h => ?_)
      refine lv_i2l hx hb dL_digest_74 rfl ?_
      refine lv_ladd hx hb dL_digest_75 ?_
      refine lv_topl (fun x19 ex19 => ?_)
      have hF := lt_u hF x19 ex19
      refine lv_lstore_n (lv' := [(1, .long x19), (0, .ref a0), (3, .int a3), (4, .int v4)]) hx hb dL_digest_76 rfl hl (by decide) rfl (fun ls hl => ?_)
      obtain ⟨x20, ex20⟩ : ∃ y : Int32, y = v4 + 1 := ⟨_, rfl⟩
      have hF := lt_u hF x20 ex20
      refine lv_iinc (v := x20) (lv' := [(4, .int x20), (1, .long x19), (0, .ref a0), (3, .int a3)]) hx hb dL_digest_77 hl (k := 3) rfl (by rw [ex20]; rfl) (by decide) rfl (fun ls hl => ?_)
      refine lv_goto (tgt := 55) hx hb dL_digest_80 (by decide) ?_
      exact ih _ _ _ H locs ls hF h (lv_sub hl [2, 3, 1, 0] rfl) hk
set_option maxHeartbeats 4000000 in
set_option maxRecDepth 100000 in
theorem L_L_digest_L86 {p : Program} {l : Launch} {e : Env} {s : State} {m : MethodId} {args : Array Value} {below : List Frame} {meth : Method} {c : Code} {G : bz_G} (C : bz_C p s m c args cL_digest 5 RL wz_L_digest G) (hlocks : meth.locks = false) (hr : meth.sig.returnType = (some .long)) {a0 : Nat} {a3 : Int32} (ka0 : bz_k G a0 = (7, 0)) {k : Int64 → bz_W → Option (Int64 × bz_W)} {res : Int64 × bz_W} : ∀ (n : Nat) (v1 : Int64) (v4 : Int32) (σ : bz_W) (H : Heap) (locs : List Loc) (ls : Array Slot), f_L_digest_L86 a0 a3 k n v1 v4 σ = some res → bz_H G s σ H locs → lv_has ls 5 [(0, .ref a0), (3, .int a3), (1, .long v1), (4, .int v4)] → (∀ (w1 : Int64) (σ : bz_W) (H : Heap) (locs : List Loc) (ls : Array Slot), k w1 σ = some res → bz_H G s σ H locs → lv_has ls 5 [(0, .ref a0), (1, .long w1), (3, .int a3)] → W p l e ({ frames := 4, cells := 0, slots := 0, locals := 85 } : Room) s m args below meth c H locs 0 0 (MQ below (bz_Qc G (some (.long res.1)) res.2) args s 0 0 (bz_A G)) (F0 m 114 ls [])) → W p l e ({ frames := 4, cells := 0, slots := 0, locals := 85 } : Room) s m args below meth c H locs 0 0 (MQ below (bz_Qc G (some (.long res.1)) res.2) args s 0 0 (bz_A G)) (F0 m 86 ls []) := by
  have hx := C.1
  have hb := C.2.1
  have hts := C.2.2.2.2.1
  intro n
  induction n with
  | zero =>
    intro v1 v4 σ H locs ls hF
    exact absurd hF (by simp [f_L_digest_L86])
  | succ n ih =>
    intro v1 v4 σ H locs ls hF h hl hk
    rw [f_L_digest_L86] at hF
    refine lv_iload hx hb dL_digest_86 (lv_at hl 3 rfl) ?_
    refine lv_bipush (v := 7) hx hb dL_digest_88 (by decide) ?_
    refine lv_icmp_ge (tgt := 114) hx hb dL_digest_90 (by decide) (fun c23 => ?_) (fun c23 => ?_)
    · have hF := it_t hF c23
      exact hk _ _ H locs ls hF h (lv_sub hl [0, 2, 1] rfl)
    · have hF := it_f hF c23
      refine lv_ldc2 (v := 31) hx hb C.2.2.2.1 (hts _ (List.mem_cons_of_mem _ wd_21_1)) dL_digest_93 ?_
      refine lv_lload_n hx hb dL_digest_96 rfl (lv_at hl 2 rfl) ?_
      refine lv_lmul hx hb dL_digest_97 ?_
      refine lv_aload_n hx hb dL_digest_98 rfl (lv_at hl 0 rfl) ?_
      refine lv_iload_n hx hb dL_digest_99 rfl (lv_at hl 1 rfl) ?_
      refine lv_iload hx hb dL_digest_100 (lv_at hl 3 rfl) ?_
      obtain ⟨r24, σ25, qr24, hF⟩ := bd_u hF
      refine bz_callV (rest := [.long ((31 : Int64) * v1)]) (st1 := [.int r24, .long ((31 : Int64) * v1)]) C h (As := [.int a3, .int v4]) (o := some (.int r24)) (τ := σ25) (c_X6_account (l := l) ka0 (res := (r24, σ25)) qr24) ka0 (by decide) (ci := 6) rfl (cwV 2 hts (bz_gV wd_21_18 wd_21_19 wd_21_20 wd_1_2 wd_21_21) rfl rfl rfl (by decide +kernel) ⟨Nat.le_of_ble_eq_true rfl, Nat.le_of_ble_eq_true rfl⟩) rfl hl.1 rfl (Nat.le_of_ble_eq_true rfl) ⟨Nat.le_of_ble_eq_true rfl, Nat.le_of_ble_eq_true rfl⟩ dL_digest_102 rfl (fun H locs h => ?_)
      refine lv_i2l hx hb dL_digest_105 rfl ?_
      refine lv_ladd hx hb dL_digest_106 ?_
      refine lv_topl (fun x26 ex26 => ?_)
      have hF := lt_u hF x26 ex26
      refine lv_lstore_n (lv' := [(1, .long x26), (0, .ref a0), (3, .int a3), (4, .int v4)]) hx hb dL_digest_107 rfl hl (by decide) rfl (fun ls hl => ?_)
      obtain ⟨x27, ex27⟩ : ∃ y : Int32, y = v4 + 1 := ⟨_, rfl⟩
      have hF := lt_u hF x27 ex27
      refine lv_iinc (v := x27) (lv' := [(4, .int x27), (1, .long x26), (0, .ref a0), (3, .int a3)]) hx hb dL_digest_108 hl (k := 3) rfl (by rw [ex27]; rfl) (by decide) rfl (fun ls hl => ?_)
      refine lv_goto (tgt := 86) hx hb dL_digest_111 (by decide) ?_
      exact ih _ _ _ H locs ls hF h (lv_sub hl [2, 3, 1, 0] rfl) hk
