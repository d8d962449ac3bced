set_option maxHeartbeats 4000000 in
set_option maxRecDepth 100000 in
theorem c_X6_passOver {l : Launch} {G : bz_G} {σ : bz_W} {a0 : Nat} {x1_ : Int32} (ka0 : bz_k G a0 = (7, 0)) {res : Int32 × bz_W} (hF : f_X6_passOver σ a0 x1_ = some res) : bz_M l yX6_passOver wz_X6_passOver 0 0 G σ [.ref a0, .int x1_] none res.2 := by
  refine bz_mk (cc := cX6_passOver) (maxL := 3) (ret := none) (own := RX6) (by decide) rfl rfl (Nat.le_of_ble_eq_true rfl) ?_
  intro p e s m args below meth c ls C hlocks hr h hl
  have hx := C.1
  have hb := C.2.1
  have hts := C.2.2.2.2.1
  have hl : lv_has ls 3 [(0, .ref a0), (1, .int x1_)] := hl
  obtain ⟨H, eH⟩ : ∃ y, y = s.heap := ⟨_, rfl⟩
  obtain ⟨locs, el⟩ : ∃ y : List Loc, y = [] := ⟨_, rfl⟩
  rw [← el, ← eH] at h ⊢
  unfold f_X6_passOver at hF
  refine lv_iconst (v := 0) hx hb dX6_passOver_0 (by decide) ?_
  refine lv_istore_n (lv' := [(2, .int 0), (0, .ref a0), (1, .int x1_)]) hx hb dX6_passOver_1 rfl hl (by decide) rfl (fun ls hl => ?_)
  refine L_X6_passOver_L2 C hlocks hr ka0 _ _ _ H locs ls hF h (lv_sub hl [1, 2, 0] rfl) ?_
  intro σ11 H locs ls hF h hl
  exact bz_vret C h hlocks hr hF dX6_passOver_37
set_option maxHeartbeats 4000000 in
set_option maxRecDepth 100000 in
theorem L_X6_startFirstThatCan_L7 {p : Program} {l : Launch} {e : Env} {s : State} {m : MethodId} {args : Array Value} {below : List Frame} {meth : Method} {c : Code} {G : bz_G} (C : bz_C p s m c args cX6_startFirstThatCan 4 RX6 wz_X6_startFirstThatCan G) (hlocks : meth.locks = false) (hr : meth.sig.returnType = (some .boolean)) {a0 : Nat} {a1 : Int32} (ka0 : bz_k G a0 = (7, 0)) {k : bz_W → Option (Int32 × bz_W)} {res : Int32 × bz_W} : ∀ (n : Nat) (v2 : Int32) (σ : bz_W) (H : Heap) (locs : List Loc) (ls : Array Slot), f_X6_startFirstThatCan_L7 a0 a1 k n v2 σ = some res → bz_H G s σ H locs → lv_has ls 4 [(0, .ref a0), (1, .int a1), (2, .int v2)] → (∀ (σ : bz_W) (H : Heap) (locs : List Loc) (ls : Array Slot), k σ = some res → bz_H G s σ H locs → lv_has ls 4 [] → W p l e ({ frames := 4, cells := 0, slots := 0, locals := 86 } : Room) s m args below meth c H locs 0 0 (MQ below (bz_Qc G (some (.int res.1)) res.2) args s 0 0 (bz_A G)) (F0 m 80 ls [])) → W p l e ({ frames := 4, cells := 0, slots := 0, locals := 86 } : Room) s m args below meth c H locs 0 0 (MQ below (bz_Qc G (some (.int res.1)) res.2) args s 0 0 (bz_A G)) (F0 m 7 ls []) := by
  have hx := C.1
  have hb := C.2.1
  have hts := C.2.2.2.2.1
  intro n
  induction n with
  | zero =>
    intro v2 σ H locs ls hF
    exact absurd hF (by simp [f_X6_startFirstThatCan_L7])
  | succ n ih =>
    intro v2 σ H locs ls hF h hl hk
    rw [f_X6_startFirstThatCan_L7] at hF
    refine lv_iload_n hx hb dX6_startFirstThatCan_7 rfl (lv_at hl 2 rfl) ?_
    refine lv_iload_n hx hb dX6_startFirstThatCan_8 rfl (lv_at hl 1 rfl) ?_
    refine lv_icmp_ge (tgt := 80) hx hb dX6_startFirstThatCan_9 (by decide) (fun c3 => ?_) (fun c3 => ?_)
    · have hF := it_t hF c3
      exact hk _ H locs ls hF h (lv_sub hl [] rfl)
    · have hF := it_f hF c3
      refine lv_aload_n hx hb dX6_startFirstThatCan_12 rfl (lv_at hl 0 rfl) ?_
      refine gf_6_0 C h ka0 iz_X6 (List.mem_cons_of_mem _ wd_1_15) dX6_startFirstThatCan_13 (fun k4 => ?_)
      refine gf_3_0 C h k4 iz_X3 (List.mem_cons_of_mem _ wd_5_0) dX6_startFirstThatCan_16 (fun k5 => ?_)
      refine lv_aload_n hx hb dX6_startFirstThatCan_19 rfl (lv_at hl 0 rfl) ?_
      refine gf_6_6 C h ka0 iz_X6 (List.mem_cons_of_mem _ wd_2_6) dX6_startFirstThatCan_20 (fun k6 => ?_)
      refine lv_iload_n hx hb dX6_startFirstThatCan_23 rfl (lv_at hl 2 rfl) ?_
      obtain ⟨c7, hF⟩ := ck_u hF
      refine bz_iald C h k6 c7 (kx := v2.toNatClampNeg) rfl dX6_startFirstThatCan_24 ?_
      obtain ⟨c8, hF⟩ := ck_u hF
      refine bz_aaldm C h k5 c8 (kx := ((σ.1 (σ.2 a0 6) v2.toNatClampNeg) : Int32).toNatClampNeg) rfl dX6_startFirstThatCan_25 (fun k9 => ?_)
      refine lv_astore_n (lv' := [(3, .ref (σ.2 (σ.2 (σ.2 a0 0) 0) ((σ.1 (σ.2 a0 6) v2.toNatClampNeg) : Int32).toNatClampNeg)), (0, .ref a0), (1, .int a1), (2, .int v2)]) hx hb dX6_startFirstThatCan_26 rfl hl (by decide) rfl (fun ls hl => ?_)
      refine lv_aload_n hx hb dX6_startFirstThatCan_27 rfl (lv_at hl 1 rfl) ?_
      refine gf_6_0 C h ka0 iz_X6 (List.mem_cons_of_mem _ wd_1_15) dX6_startFirstThatCan_28 (fun k10 => ?_)
      refine lv_aload_n hx hb dX6_startFirstThatCan_31 rfl (lv_at hl 0 rfl) ?_
      obtain ⟨r11, σ12, qr11, hF⟩ := bd_u hF
      refine bz_callV (rest := []) (st1 := [.int r11]) C h (As := [.ref (σ.2 (σ.2 (σ.2 a0 0) 0) ((σ.1 (σ.2 a0 6) v2.toNatClampNeg) : Int32).toNatClampNeg)]) (o := some (.int r11)) (τ := σ12) (c_X3_reasonAgainst (l := l) k10 k9 (res := (r11, σ12)) qr11) k10 (by decide) (ci := 3) rfl (cwV 1 hts (bz_gV wd_17_12 wd_17_13 wd_17_14 wd_1_14 wd_17_15) rfl rfl rfl (by decide +kernel) ⟨Nat.le_of_ble_eq_true rfl, Nat.le_of_ble_eq_true rfl⟩) rfl hl.1 rfl (by decide) ⟨Nat.zero_le _, Nat.zero_le _⟩ dX6_startFirstThatCan_32 rfl (fun H locs h => ?_)
      refine lv_if_ne (tgt := 74) hx hb dX6_startFirstThatCan_35 (by decide) (fun c13 => ?_) (fun c13 => ?_)
      · have hF := it_f hF c13
        obtain ⟨x14, ex14⟩ : ∃ y : Int32, y = v2 + 1 := ⟨_, rfl⟩
        have hF := lt_u hF x14 ex14
        refine lv_iinc (v := x14) (lv' := [(2, .int x14), (3, .ref (σ.2 (σ.2 (σ.2 a0 0) 0) ((σ.1 (σ.2 a0 6) v2.toNatClampNeg) : Int32).toNatClampNeg)), (0, .ref a0), (1, .int a1)]) hx hb dX6_startFirstThatCan_74 hl (k := 3) rfl (by rw [ex14]; rfl) (by decide) rfl (fun ls hl => ?_)
        refine lv_goto (tgt := 7) hx hb dX6_startFirstThatCan_77 (by decide) ?_
        exact ih _ _ H locs ls hF h (lv_sub hl [2, 3, 0] rfl) hk
      · have hF := it_t hF c13
        refine lv_aload_n hx hb dX6_startFirstThatCan_38 rfl (lv_at hl 0 rfl) ?_
        refine lv_iconst (v := 2) hx hb dX6_startFirstThatCan_39 (by decide) ?_
        refine pf_2_8 C h k9 iz_X2 (List.mem_cons_of_mem _ wd_10_17) dX6_startFirstThatCan_40 (fun H locs h => ?_)
        obtain ⟨σ15, eσ15⟩ : ∃ y : bz_W, y = bz_wi σ12 (σ.2 (σ.2 (σ.2 a0 0) 0) ((σ.1 (σ.2 a0 6) v2.toNatClampNeg) : Int32).toNatClampNeg) 8 2 := ⟨_, rfl⟩
        rw [← eσ15] at h
        have hF := lt_u hF σ15 eσ15
        refine lv_aload_n hx hb dX6_startFirstThatCan_43 rfl (lv_at hl 0 rfl) ?_
        refine lv_iconst (v := 0) hx hb dX6_startFirstThatCan_44 (by decide) ?_
        refine pf_2_11 C h k9 iz_X2 (List.mem_cons_of_mem _ wd_17_10) dX6_startFirstThatCan_45 (fun H locs h => ?_)
        obtain ⟨σ16, eσ16⟩ : ∃ y : bz_W, y = bz_wi σ15 (σ.2 (σ.2 (σ.2 a0 0) 0) ((σ.1 (σ.2 a0 6) v2.toNatClampNeg) : Int32).toNatClampNeg) 11 0 := ⟨_, rfl⟩
        rw [← eσ16] at h
        have hF := lt_u hF σ16 eσ16
        refine lv_aload_n hx hb dX6_startFirstThatCan_48 rfl (lv_at hl 0 rfl) ?_
        refine gf_2_1 C h k9 iz_X2 (List.mem_cons_of_mem _ wd_17_11) dX6_startFirstThatCan_49 (fun k17 => ?_)
        refine lv_iconst (v := 2) hx hb dX6_startFirstThatCan_52 (by decide) ?_
        refine lv_dup2_11 hx hb dX6_startFirstThatCan_53 rfl rfl ?_
        refine bz_iald C h k17 (by decide) (kx := 2) (bz_cl 2 (by decide)) dX6_startFirstThatCan_54 ?_
        refine lv_iconst (v := 1) hx hb dX6_startFirstThatCan_55 (by decide) ?_
        refine lv_iadd hx hb dX6_startFirstThatCan_56 ?_
        refine bz_iast C h k17 (by decide) (kx := 2) (bz_cl 2 (by decide)) dX6_startFirstThatCan_57 (fun H locs h => ?_)
        obtain ⟨σ18, eσ18⟩ : ∃ y : bz_W, y = bz_wi σ16 (σ16.2 (σ.2 (σ.2 (σ.2 a0 0) 0) ((σ.1 (σ.2 a0 6) v2.toNatClampNeg) : Int32).toNatClampNeg) 1) 2 ((σ16.1 (σ16.2 (σ.2 (σ.2 (σ.2 a0 0) 0) ((σ.1 (σ.2 a0 6) v2.toNatClampNeg) : Int32).toNatClampNeg) 1) 2) + 1) := ⟨_, rfl⟩
        rw [← eσ18] at h
        have hF := lt_u hF σ18 eσ18
        refine lv_aload_n hx hb dX6_startFirstThatCan_58 rfl (lv_at hl 1 rfl) ?_
        refine gf_6_0 C h ka0 iz_X6 (List.mem_cons_of_mem _ wd_1_15) dX6_startFirstThatCan_59 (fun k19 => ?_)
        refine lv_aload_n hx hb dX6_startFirstThatCan_62 rfl (lv_at hl 0 rfl) ?_
        refine lv_iconst (v := 1) hx hb dX6_startFirstThatCan_63 (by decide) ?_
        obtain ⟨r20, σ21, qr20, hF⟩ := bd_u hF
        refine bz_callV (rest := []) (st1 := []) C h (As := [.ref (σ.2 (σ.2 (σ.2 a0 0) 0) ((σ.1 (σ.2 a0 6) v2.toNatClampNeg) : Int32).toNatClampNeg), .int 1]) (o := none) (τ := σ21) (c_X3_note (l := l) k19 k9 (res := (r20, σ21)) qr20) k19 (by decide) (ci := 3) rfl (cwV 2 hts (bz_gV wd_11_15 wd_11_16 wd_11_17 wd_1_14 wd_11_18) rfl rfl rfl (by decide +kernel) ⟨Nat.le_of_ble_eq_true rfl, Nat.le_of_ble_eq_true rfl⟩) rfl hl.1 rfl (by decide) ⟨Nat.zero_le _, Nat.zero_le _⟩ dX6_startFirstThatCan_64 rfl (fun H locs h => ?_)
        refine lv_aload_n hx hb dX6_startFirstThatCan_67 rfl (lv_at hl 1 rfl) ?_
        refine lv_iload_n hx hb dX6_startFirstThatCan_68 rfl (lv_at hl 3 rfl) ?_
        obtain ⟨r22, σ23, qr22, hF⟩ := bd_u hF
        refine bz_callV (rest := []) (st1 := []) C h (As := [.int v2]) (o := none) (τ := σ23) (c_X6_passOver (l := l) ka0 (res := (r22, σ23)) qr22) ka0 (by decide) (ci := 6) rfl (cwV 1 hts (bz_gV wd_18_12 wd_18_13 wd_18_14 wd_1_2 wd_18_15) rfl rfl rfl (by decide +kernel) ⟨Nat.le_of_ble_eq_true rfl, Nat.le_of_ble_eq_true rfl⟩) rfl hl.1 rfl (by decide) ⟨Nat.zero_le _, Nat.zero_le _⟩ dX6_startFirstThatCan_69 rfl (fun H locs h => ?_)
        refine lv_iconst (v := 1) hx hb dX6_startFirstThatCan_72 (by decide) ?_
        exact bz_zret C h hlocks hr (by decide) hF dX6_startFirstThatCan_73
set_option maxHeartbeats 4000000 in
set_option maxRecDepth 100000 in
theorem c_X6_startFirstThatCan {l : Launch} {G : bz_G} {σ : bz_W} {a0 : Nat} (ka0 : bz_k G a0 = (7, 0)) {res : Int32 × bz_W} (hF : f_X6_startFirstThatCan σ a0 = some res) : bz_M l yX6_startFirstThatCan wz_X6_startFirstThatCan 4 86 G σ [.ref a0] (some (.int res.1)) res.2 := by
  refine bz_mk (cc := cX6_startFirstThatCan) (maxL := 4) (ret := (some .boolean)) (own := RX6) (by decide) rfl rfl (Nat.le_of_ble_eq_true rfl) ?_
  intro p e s m args below meth c ls C hlocks hr h hl
  have hx := C.1
  have hb := C.2.1
  have hts := C.2.2.2.2.1
  have hl : lv_has ls 4 [(0, .ref a0)] := hl
  obtain ⟨H, eH⟩ : ∃ y, y = s.heap := ⟨_, rfl⟩
  obtain ⟨locs, el⟩ : ∃ y : List Loc, y = [] := ⟨_, rfl⟩
  rw [← el, ← eH] at h ⊢
  unfold f_X6_startFirstThatCan at hF
  refine lv_aload_n hx hb dX6_startFirstThatCan_0 rfl (lv_at hl 0 rfl) ?_
  obtain ⟨r1, σ2, qr1, hF⟩ := bd_u hF
  refine bz_callV (rest := []) (st1 := [.int r1]) C h (As := []) (o := some (.int r1)) (τ := σ2) (c_X6_fillLine (l := l) ka0 (res := (r1, σ2)) qr1) ka0 (by decide) (ci := 6) rfl (cwV 0 hts (bz_gV wd_13_0 wd_13_1 wd_13_2 wd_1_2 wd_13_3) rfl rfl rfl (by decide +kernel) ⟨Nat.le_of_ble_eq_true rfl, Nat.le_of_ble_eq_true rfl⟩) rfl hl.1 rfl (by decide) ⟨Nat.zero_le _, Nat.zero_le _⟩ dX6_startFirstThatCan_1 rfl (fun H locs h => ?_)
  refine lv_istore_n (lv' := [(1, .int r1), (0, .ref a0)]) hx hb dX6_startFirstThatCan_4 rfl hl (by decide) rfl (fun ls hl => ?_)
  refine lv_iconst (v := 0) hx hb dX6_startFirstThatCan_5 (by decide) ?_
  refine lv_istore_n (lv' := [(2, .int 0), (1, .int r1), (0, .ref a0)]) hx hb dX6_startFirstThatCan_6 rfl hl (by decide) rfl (fun ls hl => ?_)
  refine L_X6_startFirstThatCan_L7 C hlocks hr ka0 _ _ _ H locs ls hF h (lv_sub hl [2, 1, 0] rfl) ?_
  intro σ24 H locs ls hF h hl
  refine lv_iconst (v := 0) hx hb dX6_startFirstThatCan_80 (by decide) ?_
  exact bz_zret C h hlocks hr (by decide) hF dX6_startFirstThatCan_81
set_option maxHeartbeats 4000000 in
set_option maxRecDepth 100000 in
theorem L_X6_heatMotors_L2 {p : Program} {l : Launch} {e : Env} {s : State} {m : MethodId} {args : Array Value} {below : List Frame} {meth : Method} {c : Code} {G : bz_G} (C : bz_C p s m c args cX6_heatMotors 3 RX6 wz_X6_heatMotors G) (hlocks : meth.locks = false) (hr : meth.sig.returnType = none) {a0 : Nat} (ka0 : bz_k G a0 = (7, 0)) {k : bz_W → Option (Int32 × bz_W)} {res : Int32 × bz_W} : ∀ (n : Nat) (v1 : Int32) (σ : bz_W) (H : Heap) (locs : List Loc) (ls : Array Slot), f_X6_heatMotors_L2 a0 k n v1 σ = some res → bz_H G s σ H locs → lv_has ls 3 [(0, .ref a0), (1, .int v1)] → (∀ (σ : bz_W) (H : Heap) (locs : List Loc) (ls : Array Slot), k σ = some res → bz_H G s σ H locs → lv_has ls 3 [] → W p l e ({ frames := 3, cells := 0, slots := 0, locals := 68 } : Room) s m args below meth c H locs 0 0 (MQ below (bz_Qc G none res.2) args s 0 0 (bz_A G)) (F0 m 56 ls [])) → W p l e ({ frames := 3, cells := 0, slots := 0, locals := 68 } : Room) s m args below meth c H locs 0 0 (MQ below (bz_Qc G none res.2) args s 0 0 (bz_A G)) (F0 m 2 ls []) := by
  have hx := C.1
  have hb := C.2.1
  have hts := C.2.2.2.2.1
  intro n
  induction n with
  | zero =>
    intro v1 σ H locs ls hF
    exact absurd hF (by simp [f_X6_heatMotors_L2])
  | succ n ih =>
    intro v1 σ H locs ls hF h hl hk
    rw [f_X6_heatMotors_L2] at hF
    refine lv_iload_n hx hb dX6_heatMotors_2 rfl (lv_at hl 1 rfl) ?_
    refine lv_aload_n hx hb dX6_heatMotors_3 rfl (lv_at hl 0 rfl) ?_
    refine gf_6_0 C h ka0 iz_X6 (List.mem_cons_of_mem _ wd_1_15) dX6_heatMotors_4 (fun k1 => ?_)
    refine gf_3_3 C h k1 iz_X3 (List.mem_cons_of_mem _ wd_4_23) dX6_heatMotors_7 ?_
    refine lv_icmp_ge (tgt := 56) hx hb dX6_heatMotors_10 (by decide) (fun c2 => ?_) (fun c2 => ?_)
    · have hF := it_t hF c2
      exact hk _ H locs ls hF h (lv_sub hl [] rfl)
    · have hF := it_f hF c2
      refine lv_aload_n hx hb dX6_heatMotors_13 rfl (lv_at hl 0 rfl) ?_
      refine gf_6_0 C h ka0 iz_X6 (List.mem_cons_of_mem _ wd_1_15) dX6_heatMotors_14 (fun k3 => ?_)
      refine gf_3_0 C h k3 iz_X3 (List.mem_cons_of_mem _ wd_5_0) dX6_heatMotors_17 (fun k4 => ?_)
      refine lv_iload_n hx hb dX6_heatMotors_20 rfl (lv_at hl 1 rfl) ?_
      obtain ⟨c5, hF⟩ := ck_u hF
      refine bz_aaldm C h k4 c5 (kx := v1.toNatClampNeg) rfl dX6_heatMotors_21 (fun k6 => ?_)
      refine lv_astore_n (lv' := [(2, .ref (σ.2 (σ.2 (σ.2 a0 0) 0) v1.toNatClampNeg)), (0, .ref a0), (1, .int v1)]) hx hb dX6_heatMotors_22 rfl hl (by decide) rfl (fun ls hl => ?_)
      refine lv_aload_n hx hb dX6_heatMotors_23 rfl (lv_at hl 0 rfl) ?_
      obtain ⟨r7, σ8, qr7, hF⟩ := bd_u hF
      refine bz_callV (rest := []) (st1 := []) C h (As := []) (o := none) (τ := σ8) (c_X2_countSecond (l := l) k6 (res := (r7, σ8)) qr7) k6 (by decide) (ci := 2) rfl (cwV 0 hts (bz_gV wd_18_20 wd_18_21 wd_18_22 wd_2_14 wd_18_23) rfl rfl rfl (by decide +kernel) ⟨Nat.le_of_ble_eq_true rfl, Nat.le_of_ble_eq_true rfl⟩) rfl hl.1 rfl (by decide) ⟨Nat.zero_le _, Nat.zero_le _⟩ dX6_heatMotors_24 rfl (fun H locs h => ?_)
      refine lv_aload_n hx hb dX6_heatMotors_27 rfl (lv_at hl 0 rfl) ?_
      refine lv_aload_n hx hb dX6_heatMotors_28 rfl (lv_at hl 1 rfl) ?_
      refine gf_6_0 C h ka0 iz_X6 (List.mem_cons_of_mem _ wd_1_15) dX6_heatMotors_29 (fun k9 => ?_)
      refine gf_3_6 C h k9 iz_X3 (List.mem_cons_of_mem _ wd_10_16) dX6_heatMotors_32 ?_
      obtain ⟨r10, σ11, qr10, hF⟩ := bd_u hF
      refine bz_callV (rest := []) (st1 := []) C h (As := [.int (σ8.1 (σ8.2 a0 0) 6)]) (o := none) (τ := σ11) (c_X2_exchangeHeat (l := l) k6 (res := (r10, σ11)) qr10) k6 (by decide) (ci := 2) rfl (cwV 1 hts (bz_gV wd_19_4 wd_19_5 wd_19_6 wd_2_14 wd_19_7) rfl rfl rfl (by decide +kernel) ⟨Nat.le_of_ble_eq_true rfl, Nat.le_of_ble_eq_true rfl⟩) rfl hl.1 rfl (by decide) ⟨Nat.zero_le _, Nat.zero_le _⟩ dX6_heatMotors_35 rfl (fun H locs h => ?_)
      refine lv_aload_n hx hb dX6_heatMotors_38 rfl (lv_at hl 1 rfl) ?_
      refine gf_6_0 C h ka0 iz_X6 (List.mem_cons_of_mem _ wd_1_15) dX6_heatMotors_39 (fun k12 => ?_)
      refine lv_aload_n hx hb dX6_heatMotors_42 rfl (lv_at hl 0 rfl) ?_
      refine lv_aload_n hx hb dX6_heatMotors_43 rfl (lv_at hl 0 rfl) ?_
      obtain ⟨r13, σ14, qr13, hF⟩ := bd_u hF
      refine bz_callV (rest := [.ref (σ.2 (σ.2 (σ.2 a0 0) 0) v1.toNatClampNeg), .ref (σ11.2 a0 0)]) (st1 := [.int r13, .ref (σ.2 (σ.2 (σ.2 a0 0) 0) v1.toNatClampNeg), .ref (σ11.2 a0 0)]) C h (As := []) (o := some (.int r13)) (τ := σ14) (c_X2_endSecond (l := l) k6 (res := (r13, σ14)) qr13) k6 (by decide) (ci := 2) rfl (cwV 0 hts (bz_gV wd_19_11 wd_19_12 wd_19_13 wd_2_14 wd_19_14) rfl rfl rfl (by decide +kernel) ⟨Nat.le_of_ble_eq_true rfl, Nat.le_of_ble_eq_true rfl⟩) rfl hl.1 rfl (Nat.le_of_ble_eq_true rfl) ⟨Nat.zero_le _, Nat.zero_le _⟩ dX6_heatMotors_44 rfl (fun H locs h => ?_)
      obtain ⟨r15, σ16, qr15, hF⟩ := bd_u hF
      refine bz_callV (rest := []) (st1 := []) C h (As := [.ref (σ.2 (σ.2 (σ.2 a0 0) 0) v1.toNatClampNeg), .int r13]) (o := none) (τ := σ16) (c_X3_note (l := l) k12 k6 (res := (r15, σ16)) qr15) k12 (by decide) (ci := 3) rfl (cwV 2 hts (bz_gV wd_11_15 wd_11_16 wd_11_17 wd_1_14 wd_11_18) rfl rfl rfl (by decide +kernel) ⟨Nat.le_of_ble_eq_true rfl, Nat.le_of_ble_eq_true rfl⟩) rfl hl.1 rfl (by decide) ⟨Nat.zero_le _, Nat.zero_le _⟩ dX6_heatMotors_47 rfl (fun H locs h => ?_)
      obtain ⟨x17, ex17⟩ : ∃ y : Int32, y = v1 + 1 := ⟨_, rfl⟩
      have hF := lt_u hF x17 ex17
      refine lv_iinc (v := x17) (lv' := [(1, .int x17), (2, .ref (σ.2 (σ.2 (σ.2 a0 0) 0) v1.toNatClampNeg)), (0, .ref a0)]) hx hb dX6_heatMotors_50 hl (k := 2) rfl (by rw [ex17]; rfl) (by decide) rfl (fun ls hl => ?_)
      refine lv_goto (tgt := 2) hx hb dX6_heatMotors_53 (by decide) ?_
      exact ih _ _ H locs ls hF h (lv_sub hl [2, 0] rfl) hk
set_option maxHeartbeats 4000000 in
set_option maxRecDepth 100000 in
theorem c_X6_heatMotors {l : Launch} {G : bz_G} {σ : bz_W} {a0 : Nat} (ka0 : bz_k G a0 = (7, 0)) {res : Int32 × bz_W} (hF : f_X6_heatMotors σ a0 = some res) : bz_M l yX6_heatMotors wz_X6_heatMotors 3 68 G σ [.ref a0] none res.2 := by
  refine bz_mk (cc := cX6_heatMotors) (maxL := 3) (ret := none) (own := RX6) (by decide) rfl rfl (Nat.le_of_ble_eq_true rfl) ?_
  intro p e s m args below meth c ls C hlocks hr h hl
  have hx := C.1
  have hb := C.2.1
  have hts := C.2.2.2.2.1
  have hl : lv_has ls 3 [(0, .ref a0)] := hl
  obtain ⟨H, eH⟩ : ∃ y, y = s.heap := ⟨_, rfl⟩
  obtain ⟨locs, el⟩ : ∃ y : List Loc, y = [] := ⟨_, rfl⟩
  rw [← el, ← eH] at h ⊢
  unfold f_X6_heatMotors at hF
  refine lv_iconst (v := 0) hx hb dX6_heatMotors_0 (by decide) ?_
  refine lv_istore_n (lv' := [(1, .int 0), (0, .ref a0)]) hx hb dX6_heatMotors_1 rfl hl (by decide) rfl (fun ls hl => ?_)
  refine L_X6_heatMotors_L2 C hlocks hr ka0 _ _ _ H locs ls hF h (lv_sub hl [1, 0] rfl) ?_
  intro σ18 H locs ls hF h hl
  exact bz_vret C h hlocks hr hF dX6_heatMotors_56
set_option maxHeartbeats 4000000 in
set_option maxRecDepth 100000 in
theorem L_X6_pass_L28 {p : Program} {l : Launch} {e : Env} {s : State} {m : MethodId} {args : Array Value} {below : List Frame} {meth : Method} {c : Code} {G : bz_G} (C : bz_C p s m c args cX6_pass 4 RX6 wz_X6_pass G) (hlocks : meth.locks = false) (hr : meth.sig.returnType = (some .int)) {a0 : Nat} {a1 : Int32} (ka0 : bz_k G a0 = (7, 0)) {k : Int32 → bz_W → Option (Int32 × bz_W)} {res : Int32 × bz_W} : ∀ (n : Nat) (v2 : Int32) (v3 : Int32) (σ : bz_W) (H : Heap) (locs : List Loc) (ls : Array Slot), f_X6_pass_L28 a0 a1 k n v2 v3 σ = some res → bz_H G s σ H locs → lv_has ls 4 [(0, .ref a0), (1, .int a1), (2, .int v2), (3, .int v3)] → (∀ (w2 : Int32) (σ : bz_W) (H : Heap) (locs : List Loc) (ls : Array Slot), k w2 σ = some res → bz_H G s σ H locs → lv_has ls 4 [(2, .int w2)] → W p l e ({ frames := 7, cells := 0, slots := 0, locals := 161 } : Room) s m args below meth c H locs 0 0 (MQ below (bz_Qc G (some (.int res.1)) res.2) args s 0 0 (bz_A G)) (F0 m 70 ls [])) → W p l e ({ frames := 7, cells := 0, slots := 0, locals := 161 } : Room) s m args below meth c H locs 0 0 (MQ below (bz_Qc G (some (.int res.1)) res.2) args s 0 0 (bz_A G)) (F0 m 28 ls []) := by
  have hx := C.1
  have hb := C.2.1
  have hts := C.2.2.2.2.1
  intro n
  induction n with
  | zero =>
    intro v2 v3 σ H locs ls hF
    exact absurd hF (by simp [f_X6_pass_L28])
  | succ n ih =>
    intro v2 v3 σ H locs ls hF h hl hk
    rw [f_X6_pass_L28] at hF
    refine lv_iload_n hx hb dX6_pass_28 rfl (lv_at hl 3 rfl) ?_
    refine lv_iload_n hx hb dX6_pass_29 rfl (lv_at hl 1 rfl) ?_
    refine lv_icmp_ge (tgt := 70) hx hb dX6_pass_30 (by decide) (fun c8 => ?_) (fun c8 => ?_)
    · have hF := it_t hF c8
      exact hk _ _ H locs ls hF h (lv_sub hl [2] rfl)
    · have hF := it_f hF c8
      refine lv_aload_n hx hb dX6_pass_33 rfl (lv_at hl 0 rfl) ?_
      obtain ⟨r9, σ10, qr9, hF⟩ := bd_u hF
      refine bz_callV (rest := []) (st1 := []) C h (As := []) (o := none) (τ := σ10) (c_X6_carryOutDueItems (l := l) ka0 (res := (r9, σ10)) qr9) ka0 (by decide) (ci := 6) rfl (cwV 0 hts (bz_gV wd_16_14 wd_16_15 wd_16_16 wd_1_2 wd_16_17) rfl rfl rfl (by decide +kernel) ⟨Nat.le_of_ble_eq_true rfl, Nat.le_of_ble_eq_true rfl⟩) rfl hl.1 rfl (by decide) ⟨Nat.zero_le _, Nat.zero_le _⟩ dX6_pass_34 rfl (fun H locs h => ?_)
      refine lv_aload_n hx hb dX6_pass_37 rfl (lv_at hl 0 rfl) ?_
      obtain ⟨r11, σ12, qr11, hF⟩ := bd_u hF
      refine bz_callV (rest := []) (st1 := [.int r11]) C h (As := []) (o := some (.int r11)) (τ := σ12) (c_X6_startFirstThatCan (l := l) ka0 (res := (r11, σ12)) qr11) ka0 (by decide) (ci := 6) rfl (cwV 0 hts (bz_gV wd_17_6 wd_17_7 wd_17_8 wd_1_2 wd_17_9) rfl rfl rfl (by decide +kernel) ⟨Nat.le_of_ble_eq_true rfl, Nat.le_of_ble_eq_true rfl⟩) rfl hl.1 rfl (by decide) ⟨Nat.zero_le _, Nat.zero_le _⟩ dX6_pass_38 rfl (fun H locs h => ?_)
      obtain ⟨j15, ej15, hF⟩ := lt_j hF
      have hj15 : ∀ (x13 : Int32) (σ14 : bz_W) (H : Heap) (locs : List Loc) (ls : Array Slot), j15 x13 σ14 = some res → bz_H G s σ14 H locs → lv_has ls 4 [(0, .ref a0), (1, .int a1), (2, .int x13), (3, .int v3)] → W p l e ({ frames := 7, cells := 0, slots := 0, locals := 161 } : Room) s m args below meth c H locs 0 0 (MQ below (bz_Qc G (some (.int res.1)) res.2) args s 0 0 (bz_A G)) (F0 m 47 ls []) := by
          intro x13 σ14 H locs ls hF h hl
          subst ej15
          refine lv_aload_n hx hb dX6_pass_47 rfl (lv_at hl 0 rfl) ?_
          obtain ⟨r16, σ17, qr16, hF⟩ := bd_u hF
          refine bz_callV (rest := []) (st1 := []) C h (As := []) (o := none) (τ := σ17) (c_X6_heatMotors (l := l) ka0 (res := (r16, σ17)) qr16) ka0 (by decide) (ci := 6) rfl (cwV 0 hts (bz_gV wd_18_16 wd_18_17 wd_18_18 wd_1_2 wd_18_19) rfl rfl rfl (by decide +kernel) ⟨Nat.le_of_ble_eq_true rfl, Nat.le_of_ble_eq_true rfl⟩) rfl hl.1 rfl (by decide) ⟨Nat.zero_le _, Nat.zero_le _⟩ dX6_pass_48 rfl (fun H locs h => ?_)
          refine lv_aload_n hx hb dX6_pass_51 rfl (lv_at hl 0 rfl) ?_
          refine gf_6_0 C h ka0 iz_X6 (List.mem_cons_of_mem _ wd_1_15) dX6_pass_52 (fun k18 => ?_)
          refine lv_dup hx hb dX6_pass_55 rfl ?_
          refine gf_3_4 C h k18 iz_X3 (List.mem_cons_of_mem _ wd_11_9) dX6_pass_56 ?_
          refine lv_iconst (v := 1) hx hb dX6_pass_59 (by decide) ?_
          refine lv_iadd hx hb dX6_pass_60 ?_
          refine pf_3_4 C h k18 iz_X3 (List.mem_cons_of_mem _ wd_11_9) dX6_pass_61 (fun H locs h => ?_)
          obtain ⟨σ19, eσ19⟩ : ∃ y : bz_W, y = bz_wi σ17 (σ17.2 a0 0) 4 ((σ17.1 (σ17.2 a0 0) 4) + 1) := ⟨_, rfl⟩
          rw [← eσ19] at h
          have hF := lt_u hF σ19 eσ19
          obtain ⟨x20, ex20⟩ : ∃ y : Int32, y = v3 + 1 := ⟨_, rfl⟩
          have hF := lt_u hF x20 ex20
          refine lv_iinc (v := x20) (lv' := [(3, .int x20), (0, .ref a0), (1, .int a1), (2, .int x13)]) hx hb dX6_pass_64 hl (k := 3) rfl (by rw [ex20]; rfl) (by decide) rfl (fun ls hl => ?_)
          refine lv_goto (tgt := 28) hx hb dX6_pass_67 (by decide) ?_
          exact ih _ _ _ H locs ls hF h (lv_sub hl [1, 2, 3, 0] rfl) hk
      refine lv_if_eq (tgt := 47) hx hb dX6_pass_41 (by decide) (fun c21 => ?_) (fun c21 => ?_)
      · have hF := it_t hF c21
        exact hj15 _ _ H locs ls hF h (lv_sub hl [0, 1, 2, 3] rfl)
      · have hF := it_f hF c21
        obtain ⟨x22, ex22⟩ : ∃ y : Int32, y = v2 + 1 := ⟨_, rfl⟩
        have hF := lt_u hF x22 ex22
        refine lv_iinc (v := x22) (lv' := [(2, .int x22), (0, .ref a0), (1, .int a1), (3, .int v3)]) hx hb dX6_pass_44 hl (k := 2) rfl (by rw [ex22]; rfl) (by decide) rfl (fun ls hl => ?_)
        exact hj15 _ _ H locs ls hF h (lv_sub hl [1, 2, 0, 3] rfl)
set_option maxHeartbeats 4000000 in
set_option maxRecDepth 100000 in
theorem c_X6_pass {l : Launch} {G : bz_G} {σ : bz_W} {a0 : Nat} {x1_ : Int32} (ka0 : bz_k G a0 = (7, 0)) {res : Int32 × bz_W} (hF : f_X6_pass σ a0 x1_ = some res) : bz_M l yX6_pass wz_X6_pass 7 161 G σ [.ref a0, .int x1_] (some (.int res.1)) res.2 := by
  refine bz_mk (cc := cX6_pass) (maxL := 4) (ret := (some .int)) (own := RX6) (by decide) rfl rfl (Nat.le_of_ble_eq_true rfl) ?_
  intro p e s m args below meth c ls C hlocks hr h hl
  have hx := C.1
  have hb := C.2.1
  have hts := C.2.2.2.2.1
  have hl : lv_has ls 4 [(0, .ref a0), (1, .int x1_)] := hl
  obtain ⟨H, eH⟩ : ∃ y, y = s.heap := ⟨_, rfl⟩
  obtain ⟨locs, el⟩ : ∃ y : List Loc, y = [] := ⟨_, rfl⟩
  rw [← el, ← eH] at h ⊢
  unfold f_X6_pass at hF
  refine lv_iload_n hx hb dX6_pass_0 rfl (lv_at hl 1 rfl) ?_
  refine lv_iconst (v := 1) hx hb dX6_pass_1 (by decide) ?_
  refine lv_bipush (v := 60) hx hb dX6_pass_2 (by decide) ?_
  obtain ⟨r1, σ2, qr1, hF⟩ := bd_u hF
  refine bz_callS (rest := []) (st1 := [.int r1]) C h (As := [.int x1_, .int 1, .int 60]) (o := some (.int r1)) (τ := σ2) (c_X6_isOutside (l := l)  (res := (r1, σ2)) qr1) (va_cwS 3 hts (bz_gS wd_5_1 wd_5_2 wd_1_2 wd_5_3) rfl rfl rfl (by decide +kernel) ⟨Nat.le_of_ble_eq_true rfl, Nat.le_of_ble_eq_true rfl⟩) rfl hl.1 rfl (by decide) ⟨Nat.zero_le _, Nat.zero_le _⟩ dX6_pass_4 rfl (fun H locs h => ?_)
  refine lv_if_eq (tgt := 13) hx hb dX6_pass_7 (by decide) (fun c3 => ?_) (fun c3 => ?_)
  · have hF := it_t hF c3
    refine lv_aload_n hx hb dX6_pass_13 rfl (lv_at hl 0 rfl) ?_
    refine gf_6_1 C h ka0 iz_X6 (List.mem_cons_of_mem _ wd_1_19) dX6_pass_14 (fun k4 => ?_)
    refine lv_aload_n hx hb dX6_pass_17 rfl (lv_at hl 0 rfl) ?_
    refine gf_6_0 C h ka0 iz_X6 (List.mem_cons_of_mem _ wd_1_15) dX6_pass_18 (fun k5 => ?_)
    obtain ⟨r6, σ7, qr6, hF⟩ := bd_u hF
    refine bz_callV (rest := []) (st1 := []) C h (As := [.ref (σ2.2 a0 0)]) (o := none) (τ := σ7) (c_X1_record (l := l) k4 k5 (res := (r6, σ7)) qr6) k4 (by decide) (ci := 1) rfl (cwV 1 hts (bz_gV wd_5_9 wd_5_10 wd_5_11 wd_1_18 wd_5_12) rfl rfl rfl (by decide +kernel) ⟨Nat.le_of_ble_eq_true rfl, Nat.le_of_ble_eq_true rfl⟩) rfl hl.1 rfl (by decide) ⟨Nat.zero_le _, Nat.zero_le _⟩ dX6_pass_21 rfl (fun H locs h => ?_)
    refine lv_iconst (v := 0) hx hb dX6_pass_24 (by decide) ?_
    refine lv_istore_n (lv' := [(2, .int 0), (0, .ref a0), (1, .int x1_)]) hx hb dX6_pass_25 rfl hl (by decide) rfl (fun ls hl => ?_)
    refine lv_iconst (v := 0) hx hb dX6_pass_26 (by decide) ?_
    refine lv_istore_n (lv' := [(3, .int 0), (2, .int 0), (0, .ref a0), (1, .int x1_)]) hx hb dX6_pass_27 rfl hl (by decide) rfl (fun ls hl => ?_)
    refine L_X6_pass_L28 C hlocks hr ka0 _ _ _ _ H locs ls hF h (lv_sub hl [2, 3, 1, 0] rfl) ?_
    intro x23 σ24 H locs ls hF h hl
    refine lv_iload_n hx hb dX6_pass_70 rfl (lv_at hl 0 rfl) ?_
    exact bz_iret C h hlocks hr hF dX6_pass_71
  · have hF := it_f hF c3
    refine lv_bipush (v := (-2)) hx hb dX6_pass_10 (by decide) ?_
    exact bz_iret C h hlocks hr hF dX6_pass_12
set_option maxHeartbeats 4000000 in
set_option maxRecDepth 100000 in
theorem c_X6_type {l : Launch} {G : bz_G} {σ : bz_W} {a0 : Nat} {x1_ : Int32} (ka0 : bz_k G a0 = (7, 0)) {res : Int32 × bz_W} (hF : f_X6_type σ a0 x1_ = some res) : bz_M l yX6_type wz_X6_type 1 21 G σ [.ref a0, .int x1_] (some (.int res.1)) res.2 := by
  refine bz_mk (cc := cX6_type) (maxL := 2) (ret := (some .int)) (own := RX6) (by decide) rfl rfl (Nat.le_of_ble_eq_true rfl) ?_
  intro p e s m args below meth c ls C hlocks hr h hl
  have hx := C.1
  have hb := C.2.1
  have hts := C.2.2.2.2.1
  have hl : lv_has ls 2 [(0, .ref a0), (1, .int x1_)] := hl
  obtain ⟨H, eH⟩ : ∃ y, y = s.heap := ⟨_, rfl⟩
  obtain ⟨locs, el⟩ : ∃ y : List Loc, y = [] := ⟨_, rfl⟩
  rw [← el, ← eH] at h ⊢
  unfold f_X6_type at hF
  refine lv_aload_n hx hb dX6_type_0 rfl (lv_at hl 0 rfl) ?_
  refine gf_6_4 C h ka0 iz_X6 (List.mem_cons_of_mem _ wd_2_0) dX6_type_1 (fun k1 => ?_)
  refine gf_5_1 C h k1 iz_X5 (List.mem_cons_of_mem _ wd_22_3) dX6_type_4 ?_
  refine lv_bipush (v := 80) hx hb dX6_type_7 (by decide) ?_
  refine lv_icmp_lt (tgt := 18) hx hb dX6_type_9 (by decide) (fun c2 => ?_) (fun c2 => ?_)
  · have hF := it_t hF c2
    refine lv_aload_n hx hb dX6_type_18 rfl (lv_at hl 0 rfl) ?_
    refine gf_6_4 C h ka0 iz_X6 (List.mem_cons_of_mem _ wd_2_0) dX6_type_19 (fun k3 => ?_)
    refine gf_5_0 C h k3 iz_X5 (List.mem_cons_of_mem _ wd_22_4) dX6_type_22 (fun k4 => ?_)
    refine lv_aload_n hx hb dX6_type_25 rfl (lv_at hl 0 rfl) ?_
    refine gf_6_4 C h ka0 iz_X6 (List.mem_cons_of_mem _ wd_2_0) dX6_type_26 (fun k5 => ?_)
    refine gf_5_1 C h k5 iz_X5 (List.mem_cons_of_mem _ wd_22_3) dX6_type_29 ?_
    refine lv_iload_n hx hb dX6_type_32 rfl (lv_at hl 1 rfl) ?_
    obtain ⟨c6, hF⟩ := ck_u hF
    refine bz_cast C h k4 c6 (kx := ((σ.1 (σ.2 a0 4) 1) : Int32).toNatClampNeg) rfl dX6_type_33 (fun H locs h => ?_)
    obtain ⟨σ7, eσ7⟩ : ∃ y : bz_W, y = bz_wi σ (σ.2 (σ.2 a0 4) 0) ((σ.1 (σ.2 a0 4) 1) : Int32).toNatClampNeg (vp_nar .char x1_) := ⟨_, rfl⟩
    rw [← eσ7] at h
    have hF := lt_u hF σ7 eσ7
    refine lv_aload_n hx hb dX6_type_34 rfl (lv_at hl 0 rfl) ?_
    refine gf_6_4 C h ka0 iz_X6 (List.mem_cons_of_mem _ wd_2_0) dX6_type_35 (fun k8 => ?_)
    refine lv_dup hx hb dX6_type_38 rfl ?_
    refine gf_5_1 C h k8 iz_X5 (List.mem_cons_of_mem _ wd_22_3) dX6_type_39 ?_
    refine lv_iconst (v := 1) hx hb dX6_type_42 (by decide) ?_
    refine lv_iadd hx hb dX6_type_43 ?_
    refine pf_5_1 C h k8 iz_X5 (List.mem_cons_of_mem _ wd_22_3) dX6_type_44 (fun H locs h => ?_)
    obtain ⟨σ9, eσ9⟩ : ∃ y : bz_W, y = bz_wi σ7 (σ7.2 a0 4) 1 ((σ7.1 (σ7.2 a0 4) 1) + 1) := ⟨_, rfl⟩
    rw [← eσ9] at h
    have hF := lt_u hF σ9 eσ9
    refine lv_aload_n hx hb dX6_type_47 rfl (lv_at hl 0 rfl) ?_
    refine gf_6_4 C h ka0 iz_X6 (List.mem_cons_of_mem _ wd_2_0) dX6_type_48 (fun k10 => ?_)
    refine gf_5_1 C h k10 iz_X5 (List.mem_cons_of_mem _ wd_22_3) dX6_type_51 ?_
    exact bz_iret C h hlocks hr hF dX6_type_54
  · have hF := it_f hF c2
    refine lv_aload_n hx hb dX6_type_12 rfl (lv_at hl 0 rfl) ?_
    refine lv_iconst (v := 5) hx hb dX6_type_13 (by decide) ?_
    obtain ⟨r11, σ12, qr11, hF⟩ := bd_u hF
    refine bz_callV (rest := []) (st1 := [.int r11]) C h (As := [.int 5]) (o := some (.int r11)) (τ := σ12) (c_X6_refuse (l := l) ka0 (res := (r11, σ12)) qr11) ka0 (by decide) (ci := 6) rfl (cwV 1 hts (bz_gV wd_5_4 wd_5_5 wd_5_6 wd_1_2 wd_5_7) rfl rfl rfl (by decide +kernel) ⟨Nat.le_of_ble_eq_true rfl, Nat.le_of_ble_eq_true rfl⟩) rfl hl.1 rfl (by decide) ⟨Nat.zero_le _, Nat.zero_le _⟩ dX6_type_14 rfl (fun H locs h => ?_)
    exact bz_iret C h hlocks hr hF dX6_type_17
set_option maxHeartbeats 4000000 in
set_option maxRecDepth 100000 in
theorem c_X6_clearText {l : Launch} {G : bz_G} {σ : bz_W} {a0 : Nat} (ka0 : bz_k G a0 = (7, 0)) {res : Int32 × bz_W} (hF : f_X6_clearText σ a0 = some res) : bz_M l yX6_clearText wz_X6_clearText 0 0 G σ [.ref a0] (some (.int res.1)) res.2 := by
  refine bz_mk (cc := cX6_clearText) (maxL := 2) (ret := (some .int)) (own := RX6) (by decide) rfl rfl (Nat.le_of_ble_eq_true rfl) ?_
  intro p e s m args below meth c ls C hlocks hr h hl
  have hx := C.1
  have hb := C.2.1
  have hts := C.2.2.2.2.1
  have hl : lv_has ls 2 [(0, .ref a0)] := hl
  obtain ⟨H, eH⟩ : ∃ y, y = s.heap := ⟨_, rfl⟩
  obtain ⟨locs, el⟩ : ∃ y : List Loc, y = [] := ⟨_, rfl⟩
  rw [← el, ← eH] at h ⊢
  unfold f_X6_clearText at hF
  refine lv_aload_n hx hb dX6_clearText_0 rfl (lv_at hl 0 rfl) ?_
  refine gf_6_4 C h ka0 iz_X6 (List.mem_cons_of_mem _ wd_2_0) dX6_clearText_1 (fun k1 => ?_)
  refine gf_5_1 C h k1 iz_X5 (List.mem_cons_of_mem _ wd_22_3) dX6_clearText_4 ?_
  refine lv_topi (fun x2 ex2 => ?_)
  have hF := lt_u hF x2 ex2
  refine lv_istore_n (lv' := [(1, .int x2), (0, .ref a0)]) hx hb dX6_clearText_7 rfl hl (by decide) rfl (fun ls hl => ?_)
  refine lv_aload_n hx hb dX6_clearText_8 rfl (lv_at hl 1 rfl) ?_
  refine gf_6_4 C h ka0 iz_X6 (List.mem_cons_of_mem _ wd_2_0) dX6_clearText_9 (fun k3 => ?_)
  refine lv_iconst (v := 0) hx hb dX6_clearText_12 (by decide) ?_
  refine pf_5_1 C h k3 iz_X5 (List.mem_cons_of_mem _ wd_22_3) dX6_clearText_13 (fun H locs h => ?_)
  obtain ⟨σ4, eσ4⟩ : ∃ y : bz_W, y = bz_wi σ (σ.2 a0 4) 1 0 := ⟨_, rfl⟩
  rw [← eσ4] at h
  have hF := lt_u hF σ4 eσ4
  refine lv_iload_n hx hb dX6_clearText_16 rfl (lv_at hl 0 rfl) ?_
  exact bz_iret C h hlocks hr hF dX6_clearText_17
set_option maxHeartbeats 4000000 in
set_option maxRecDepth 100000 in
theorem c_X6_readTimetable {l : Launch} {G : bz_G} {σ : bz_W} {a0 : Nat} (ka0 : bz_k G a0 = (7, 0)) {res : Int32 × bz_W} (hF : f_X6_readTimetable σ a0 = some res) : bz_M l yX6_readTimetable wz_X6_readTimetable 9 209 G σ [.ref a0] (some (.int res.1)) res.2 := by
  refine bz_mk (cc := cX6_readTimetable) (maxL := 1) (ret := (some .int)) (own := RX6) (by decide) rfl rfl (Nat.le_of_ble_eq_true rfl) ?_
  intro p e s m args below meth c ls C hlocks hr h hl
  have hx := C.1
  have hb := C.2.1
  have hts := C.2.2.2.2.1
  have hl : lv_has ls 1 [(0, .ref a0)] := hl
  obtain ⟨H, eH⟩ : ∃ y, y = s.heap := ⟨_, rfl⟩
  obtain ⟨locs, el⟩ : ∃ y : List Loc, y = [] := ⟨_, rfl⟩
  rw [← el, ← eH] at h ⊢
  unfold f_X6_readTimetable at hF
  refine lv_aload_n hx hb dX6_readTimetable_0 rfl (lv_at hl 0 rfl) ?_
  refine gf_6_4 C h ka0 iz_X6 (List.mem_cons_of_mem _ wd_2_0) dX6_readTimetable_1 (fun k1 => ?_)
  refine lv_aload_n hx hb dX6_readTimetable_4 rfl (lv_at hl 0 rfl) ?_
  refine gf_6_5 C h ka0 iz_X6 (List.mem_cons_of_mem _ wd_2_4) dX6_readTimetable_5 (fun k2 => ?_)
  refine lv_aload_n hx hb dX6_readTimetable_8 rfl (lv_at hl 0 rfl) ?_
  refine gf_6_0 C h ka0 iz_X6 (List.mem_cons_of_mem _ wd_1_15) dX6_readTimetable_9 (fun k3 => ?_)
  refine gf_3_4 C h k3 iz_X3 (List.mem_cons_of_mem _ wd_11_9) dX6_readTimetable_12 ?_
  obtain ⟨r4, σ5, qr4, hF⟩ := bd_u hF
  refine bz_callV (rest := []) (st1 := [.int r4]) C h (As := [.ref (σ.2 a0 5), .int (σ.1 (σ.2 a0 0) 4)]) (o := some (.int r4)) (τ := σ5) (c_X5_readInto (l := l) k1 k2 (res := (r4, σ5)) qr4) k1 (by decide) (ci := 5) rfl (cwV 2 hts (bz_gV wd_22_23 wd_23_0 wd_23_1 wd_1_23 wd_23_2) rfl rfl rfl (by decide +kernel) ⟨Nat.le_of_ble_eq_true rfl, Nat.le_of_ble_eq_true rfl⟩) rfl hl.1 rfl (by decide) ⟨Nat.zero_le _, Nat.zero_le _⟩ dX6_readTimetable_15 rfl (fun H locs h => ?_)
  refine lv_if_ne (tgt := 32) hx hb dX6_readTimetable_18 (by decide) (fun c6 => ?_) (fun c6 => ?_)
  · have hF := it_f hF c6
    refine lv_aload_n hx hb dX6_readTimetable_32 rfl (lv_at hl 0 rfl) ?_
    refine gf_6_1 C h ka0 iz_X6 (List.mem_cons_of_mem _ wd_1_19) dX6_readTimetable_33 (fun k7 => ?_)
    refine lv_aload_n hx hb dX6_readTimetable_36 rfl (lv_at hl 0 rfl) ?_
    refine gf_6_0 C h ka0 iz_X6 (List.mem_cons_of_mem _ wd_1_15) dX6_readTimetable_37 (fun k8 => ?_)
    obtain ⟨r9, σ10, qr9, hF⟩ := bd_u hF
    refine bz_callV (rest := []) (st1 := []) C h (As := [.ref (σ5.2 a0 0)]) (o := none) (τ := σ10) (c_X1_record (l := l) k7 k8 (res := (r9, σ10)) qr9) k7 (by decide) (ci := 1) rfl (cwV 1 hts (bz_gV wd_5_9 wd_5_10 wd_5_11 wd_1_18 wd_5_12) rfl rfl rfl (by decide +kernel) ⟨Nat.le_of_ble_eq_true rfl, Nat.le_of_ble_eq_true rfl⟩) rfl hl.1 rfl (by decide) ⟨Nat.zero_le _, Nat.zero_le _⟩ dX6_readTimetable_40 rfl (fun H locs h => ?_)
    refine lv_aload_n hx hb dX6_readTimetable_43 rfl (lv_at hl 0 rfl) ?_
    refine gf_6_0 C h ka0 iz_X6 (List.mem_cons_of_mem _ wd_1_15) dX6_readTimetable_44 (fun k11 => ?_)
    refine gf_3_1 C h k11 iz_X3 (List.mem_cons_of_mem _ wd_16_18) dX6_readTimetable_47 (fun k12 => ?_)
    refine lv_aload_n hx hb dX6_readTimetable_50 rfl (lv_at hl 0 rfl) ?_
    refine gf_6_5 C h ka0 iz_X6 (List.mem_cons_of_mem _ wd_2_4) dX6_readTimetable_51 (fun k13 => ?_)
    obtain ⟨r14, σ15, qr14, hF⟩ := bd_u hF
    refine bz_callV (rest := []) (st1 := []) C h (As := [.ref (σ10.2 a0 5)]) (o := none) (τ := σ15) (c_X4_copyFrom (l := l) k12 k13 (res := (r14, σ15)) qr14) k12 (by decide) (ci := 4) rfl (cwV 1 hts (bz_gV wd_27_5 wd_7_0 wd_7_1 wd_2_3 wd_7_2) rfl rfl rfl (by decide +kernel) ⟨Nat.le_of_ble_eq_true rfl, Nat.le_of_ble_eq_true rfl⟩) rfl hl.1 rfl (by decide) ⟨Nat.zero_le _, Nat.zero_le _⟩ dX6_readTimetable_54 rfl (fun H locs h => ?_)
    refine lv_aload_n hx hb dX6_readTimetable_57 rfl (lv_at hl 0 rfl) ?_
    refine gf_6_5 C h ka0 iz_X6 (List.mem_cons_of_mem _ wd_2_4) dX6_readTimetable_58 (fun k16 => ?_)
    obtain ⟨r17, σ18, qr17, hF⟩ := bd_u hF
    refine bz_callV (rest := []) (st1 := [.int r17]) C h (As := []) (o := some (.int r17)) (τ := σ18) (c_X4_left (l := l) k16 (res := (r17, σ18)) qr17) k16 (by decide) (ci := 4) rfl (cwV 0 hts (bz_gV wd_27_6 wd_27_7 wd_27_8 wd_2_3 wd_27_9) rfl rfl rfl (by decide +kernel) ⟨Nat.le_of_ble_eq_true rfl, Nat.le_of_ble_eq_true rfl⟩) rfl hl.1 rfl (by decide) ⟨Nat.zero_le _, Nat.zero_le _⟩ dX6_readTimetable_61 rfl (fun H locs h => ?_)
    exact bz_iret C h hlocks hr hF dX6_readTimetable_64
  · have hF := it_t hF c6
    refine lv_bipush (v := (-100)) hx hb dX6_readTimetable_21 (by decide) ?_
    refine lv_aload_n hx hb dX6_readTimetable_23 rfl (lv_at hl 0 rfl) ?_
    refine gf_6_4 C h ka0 iz_X6 (List.mem_cons_of_mem _ wd_2_0) dX6_readTimetable_24 (fun k19 => ?_)
    refine gf_5_2 C h k19 iz_X5 (List.mem_cons_of_mem _ wd_22_22) dX6_readTimetable_27 ?_
    refine lv_isub hx hb dX6_readTimetable_30 ?_
    exact bz_iret C h hlocks hr hF dX6_readTimetable_31
set_option maxHeartbeats 4000000 in
set_option maxRecDepth 100000 in
theorem c_X6_undo {l : Launch} {G : bz_G} {σ : bz_W} {a0 : Nat} (ka0 : bz_k G a0 = (7, 0)) {res : Int32 × bz_W} (hF : f_X6_undo σ a0 = some res) : bz_M l yX6_undo wz_X6_undo 4 104 G σ [.ref a0] (some (.int res.1)) res.2 := by
  refine bz_mk (cc := cX6_undo) (maxL := 1) (ret := (some .int)) (own := RX6) (by decide) rfl rfl (Nat.le_of_ble_eq_true rfl) ?_
  intro p e s m args below meth c ls C hlocks hr h hl
  have hx := C.1
  have hb := C.2.1
  have hts := C.2.2.2.2.1
  have hl : lv_has ls 1 [(0, .ref a0)] := hl
  obtain ⟨H, eH⟩ : ∃ y, y = s.heap := ⟨_, rfl⟩
  obtain ⟨locs, el⟩ : ∃ y : List Loc, y = [] := ⟨_, rfl⟩
  rw [← el, ← eH] at h ⊢
  unfold f_X6_undo at hF
  refine lv_aload_n hx hb dX6_undo_0 rfl (lv_at hl 0 rfl) ?_
  refine gf_6_1 C h ka0 iz_X6 (List.mem_cons_of_mem _ wd_1_19) dX6_undo_1 (fun k1 => ?_)
  refine lv_aload_n hx hb dX6_undo_4 rfl (lv_at hl 0 rfl) ?_
  refine gf_6_0 C h ka0 iz_X6 (List.mem_cons_of_mem _ wd_1_15) dX6_undo_5 (fun k2 => ?_)
  obtain ⟨r3, σ4, qr3, hF⟩ := bd_u hF
  refine bz_callV (rest := []) (st1 := [.int r3]) C h (As := [.ref (σ.2 a0 0)]) (o := some (.int r3)) (τ := σ4) (c_X1_takeBack (l := l) k1 k2 (res := (r3, σ4)) qr3) k1 (by decide) (ci := 1) rfl (cwV 1 hts (bz_gV wd_29_1 wd_29_2 wd_29_3 wd_1_18 wd_29_4) rfl rfl rfl (by decide +kernel) ⟨Nat.le_of_ble_eq_true rfl, Nat.le_of_ble_eq_true rfl⟩) rfl hl.1 rfl (by decide) ⟨Nat.zero_le _, Nat.zero_le _⟩ dX6_undo_8 rfl (fun H locs h => ?_)
  refine lv_if_eq (tgt := 24) hx hb dX6_undo_11 (by decide) (fun c5 => ?_) (fun c5 => ?_)
  · have hF := it_t hF c5
    refine lv_bipush (v := (-4)) hx hb dX6_undo_24 (by decide) ?_
    exact bz_iret C h hlocks hr hF dX6_undo_26
  · have hF := it_f hF c5
    refine lv_aload_n hx hb dX6_undo_14 rfl (lv_at hl 0 rfl) ?_
    refine gf_6_1 C h ka0 iz_X6 (List.mem_cons_of_mem _ wd_1_19) dX6_undo_15 (fun k6 => ?_)
    refine gf_1_1 C h k6 iz_X1 (List.mem_cons_of_mem _ wd_29_0) dX6_undo_18 ?_
    refine lv_goto (tgt := 26) hx hb dX6_undo_21 (by decide) ?_
    exact bz_iret C h hlocks hr hF dX6_undo_26
set_option maxHeartbeats 4000000 in
set_option maxRecDepth 100000 in
theorem c_X6_keep {l : Launch} {G : bz_G} {σ : bz_W} {a0 : Nat} (ka0 : bz_k G a0 = (7, 0)) {res : Int32 × bz_W} (hF : f_X6_keep σ a0 = some res) : bz_M l yX6_keep wz_X6_keep 3 83 G σ [.ref a0] (some (.int res.1)) res.2 := by
  refine bz_mk (cc := cX6_keep) (maxL := 1) (ret := (some .int)) (own := RX6) (by decide) rfl rfl (Nat.le_of_ble_eq_true rfl) ?_
  intro p e s m args below meth c ls C hlocks hr h hl
  have hx := C.1
  have hb := C.2.1
  have hts := C.2.2.2.2.1
  have hl : lv_has ls 1 [(0, .ref a0)] := hl
  obtain ⟨H, eH⟩ : ∃ y, y = s.heap := ⟨_, rfl⟩
  obtain ⟨locs, el⟩ : ∃ y : List Loc, y = [] := ⟨_, rfl⟩
  rw [← el, ← eH] at h ⊢
  unfold f_X6_keep at hF
  refine lv_aload_n hx hb dX6_keep_0 rfl (lv_at hl 0 rfl) ?_
  refine gf_6_2 C h ka0 iz_X6 (List.mem_cons_of_mem _ wd_1_20) dX6_keep_1 (fun k1 => ?_)
  refine lv_aload_n hx hb dX6_keep_4 rfl (lv_at hl 0 rfl) ?_
  refine gf_6_0 C h ka0 iz_X6 (List.mem_cons_of_mem _ wd_1_15) dX6_keep_5 (fun k2 => ?_)
  obtain ⟨r3, σ4, qr3, hF⟩ := bd_u hF
  refine bz_callV (rest := []) (st1 := []) C h (As := [.ref (σ.2 a0 0)]) (o := none) (τ := σ4) (c_X3_copyFrom (l := l) k1 k2 (res := (r3, σ4)) qr3) k1 (by decide) (ci := 3) rfl (cwV 1 hts (bz_gV wd_29_14 wd_5_19 wd_5_20 wd_1_14 wd_5_21) rfl rfl rfl (by decide +kernel) ⟨Nat.le_of_ble_eq_true rfl, Nat.le_of_ble_eq_true rfl⟩) rfl hl.1 rfl (by decide) ⟨Nat.zero_le _, Nat.zero_le _⟩ dX6_keep_8 rfl (fun H locs h => ?_)
  refine lv_aload_n hx hb dX6_keep_11 rfl (lv_at hl 0 rfl) ?_
  refine lv_iconst (v := 1) hx hb dX6_keep_12 (by decide) ?_
  refine pf_6_3 C h ka0 iz_X6 (List.mem_cons_of_mem _ wd_29_13) (by decide) dX6_keep_13 (fun H locs h => ?_)
  obtain ⟨σ5, eσ5⟩ : ∃ y : bz_W, y = bz_wi σ4 a0 3 1 := ⟨_, rfl⟩
  rw [← eσ5] at h
  have hF := lt_u hF σ5 eσ5
  refine lv_aload_n hx hb dX6_keep_16 rfl (lv_at hl 0 rfl) ?_
  refine gf_6_0 C h ka0 iz_X6 (List.mem_cons_of_mem _ wd_1_15) dX6_keep_17 (fun k6 => ?_)
  refine gf_3_4 C h k6 iz_X3 (List.mem_cons_of_mem _ wd_11_9) dX6_keep_20 ?_
  exact bz_iret C h hlocks hr hF dX6_keep_23
set_option maxHeartbeats 4000000 in
set_option maxRecDepth 100000 in
theorem c_X6_restore {l : Launch} {G : bz_G} {σ : bz_W} {a0 : Nat} (ka0 : bz_k G a0 = (7, 0)) {res : Int32 × bz_W} (hF : f_X6_restore σ a0 = some res) : bz_M l yX6_restore wz_X6_restore 4 104 G σ [.ref a0] (some (.int res.1)) res.2 := by
  refine bz_mk (cc := cX6_restore) (maxL := 1) (ret := (some .int)) (own := RX6) (by decide) rfl rfl (Nat.le_of_ble_eq_true rfl) ?_
  intro p e s m args below meth c ls C hlocks hr h hl
  have hx := C.1
  have hb := C.2.1
  have hts := C.2.2.2.2.1
  have hl : lv_has ls 1 [(0, .ref a0)] := hl
  obtain ⟨H, eH⟩ : ∃ y, y = s.heap := ⟨_, rfl⟩
  obtain ⟨locs, el⟩ : ∃ y : List Loc, y = [] := ⟨_, rfl⟩
  rw [← el, ← eH] at h ⊢
  unfold f_X6_restore at hF
  refine lv_aload_n hx hb dX6_restore_0 rfl (lv_at hl 0 rfl) ?_
  refine gf_6_3 C h ka0 iz_X6 (List.mem_cons_of_mem _ wd_29_13) dX6_restore_1 ?_
  refine lv_if_ne (tgt := 10) hx hb dX6_restore_4 (by decide) (fun c1 => ?_) (fun c1 => ?_)
  · have hF := it_f hF c1
    refine lv_aload_n hx hb dX6_restore_10 rfl (lv_at hl 0 rfl) ?_
    refine gf_6_1 C h ka0 iz_X6 (List.mem_cons_of_mem _ wd_1_19) dX6_restore_11 (fun k2 => ?_)
    refine lv_aload_n hx hb dX6_restore_14 rfl (lv_at hl 0 rfl) ?_
    refine gf_6_0 C h ka0 iz_X6 (List.mem_cons_of_mem _ wd_1_15) dX6_restore_15 (fun k3 => ?_)
    obtain ⟨r4, σ5, qr4, hF⟩ := bd_u hF
    refine bz_callV (rest := []) (st1 := []) C h (As := [.ref (σ.2 a0 0)]) (o := none) (τ := σ5) (c_X1_record (l := l) k2 k3 (res := (r4, σ5)) qr4) k2 (by decide) (ci := 1) rfl (cwV 1 hts (bz_gV wd_5_9 wd_5_10 wd_5_11 wd_1_18 wd_5_12) rfl rfl rfl (by decide +kernel) ⟨Nat.le_of_ble_eq_true rfl, Nat.le_of_ble_eq_true rfl⟩) rfl hl.1 rfl (by decide) ⟨Nat.zero_le _, Nat.zero_le _⟩ dX6_restore_18 rfl (fun H locs h => ?_)
    refine lv_aload_n hx hb dX6_restore_21 rfl (lv_at hl 0 rfl) ?_
    refine gf_6_0 C h ka0 iz_X6 (List.mem_cons_of_mem _ wd_1_15) dX6_restore_22 (fun k6 => ?_)
    refine lv_aload_n hx hb dX6_restore_25 rfl (lv_at hl 0 rfl) ?_
    refine gf_6_2 C h ka0 iz_X6 (List.mem_cons_of_mem _ wd_1_20) dX6_restore_26 (fun k7 => ?_)
    obtain ⟨r8, σ9, qr8, hF⟩ := bd_u hF
    refine bz_callV (rest := []) (st1 := []) C h (As := [.ref (σ5.2 a0 2)]) (o := none) (τ := σ9) (c_X3_copyFrom (l := l) k6 k7 (res := (r8, σ9)) qr8) k6 (by decide) (ci := 3) rfl (cwV 1 hts (bz_gV wd_29_14 wd_5_19 wd_5_20 wd_1_14 wd_5_21) rfl rfl rfl (by decide +kernel) ⟨Nat.le_of_ble_eq_true rfl, Nat.le_of_ble_eq_true rfl⟩) rfl hl.1 rfl (by decide) ⟨Nat.zero_le _, Nat.zero_le _⟩ dX6_restore_29 rfl (fun H locs h => ?_)
    refine lv_aload_n hx hb dX6_restore_32 rfl (lv_at hl 0 rfl) ?_
    refine gf_6_0 C h ka0 iz_X6 (List.mem_cons_of_mem _ wd_1_15) dX6_restore_33 (fun k10 => ?_)
    refine gf_3_4 C h k10 iz_X3 (List.mem_cons_of_mem _ wd_11_9) dX6_restore_36 ?_
    exact bz_iret C h hlocks hr hF dX6_restore_39
  · have hF := it_t hF c1
    refine lv_bipush (v := (-4)) hx hb dX6_restore_7 (by decide) ?_
    exact bz_iret C h hlocks hr hF dX6_restore_9
set_option maxHeartbeats 4000000 in
set_option maxRecDepth 100000 in
theorem c_X6_motor {l : Launch} {G : bz_G} {σ : bz_W} {a0 : Nat} {x1_ : Int32} {x2_ : Int32} (ka0 : bz_k G a0 = (7, 0)) {res : Int32 × bz_W} (hF : f_X6_motor σ a0 x1_ x2_ = some res) : bz_M l yX6_motor wz_X6_motor 2 42 G σ [.ref a0, .int x1_, .int x2_] (some (.int res.1)) res.2 := by
  refine bz_mk (cc := cX6_motor) (maxL := 4) (ret := (some .int)) (own := RX6) (by decide) rfl rfl (Nat.le_of_ble_eq_true rfl) ?_
  intro p e s m args below meth c ls C hlocks hr h hl
  have hx := C.1
  have hb := C.2.1
  have hts := C.2.2.2.2.1
  have hl : lv_has ls 4 [(0, .ref a0), (1, .int x1_), (2, .int x2_)] := hl
  obtain ⟨H, eH⟩ : ∃ y, y = s.heap := ⟨_, rfl⟩
  obtain ⟨locs, el⟩ : ∃ y : List Loc, y = [] := ⟨_, rfl⟩
  rw [← el, ← eH] at h ⊢
  unfold f_X6_motor at hF
  refine lv_aload_n hx hb dX6_motor_0 rfl (lv_at hl 0 rfl) ?_
  refine gf_6_0 C h ka0 iz_X6 (List.mem_cons_of_mem _ wd_1_15) dX6_motor_1 (fun k1 => ?_)
  refine lv_iload_n hx hb dX6_motor_4 rfl (lv_at hl 1 rfl) ?_
  obtain ⟨r2, σ3, qr2, hF⟩ := bd_u hF
  have h0 := h
  refine bz_callV (rest := []) (st1 := [bz_rv r2]) C h (As := [.int x1_]) (o := some (bz_rv r2)) (τ := σ3) (c_X3_find (l := l) k1 (res := (r2, σ3)) qr2) k1 (by decide) (ci := 3) rfl (cwV 1 hts (bz_gV wd_9_3 wd_9_4 wd_9_5 wd_1_14 wd_9_6) rfl rfl rfl (by decide +kernel) ⟨Nat.le_of_ble_eq_true rfl, Nat.le_of_ble_eq_true rfl⟩) rfl hl.1 rfl (by decide) ⟨Nat.zero_le _, Nat.zero_le _⟩ dX6_motor_5 rfl (fun H locs h => ?_)
  by_cases zr2 : r2 = 0
  · have hF := it_t hF zr2
    rw [show bz_rv r2 = .null by rw [zr2]; rfl]
    refine lv_astore_nN (lv' := [(3, .null), (0, .ref a0), (1, .int x1_), (2, .int x2_)]) hx hb dX6_motor_8 rfl hl (by decide) rfl (fun ls hl => ?_)
    refine lv_aload_nN hx hb dX6_motor_9 rfl (lv_at hl 0 rfl) ?_
    refine lv_ifnonnullN hx hb dX6_motor_10 ?_
    refine lv_iconst (v := (-1)) hx hb dX6_motor_13 (by decide) ?_
    exact bz_iret C h hlocks hr hF dX6_motor_14
  · have hF := it_f hF zr2
    have kr2 := kd_X3_find k1 h0.2.1 qr2 zr2
    rw [bz_rv0 C.2.2.2.2.2.1.2.2.2 kr2 (by decide)]
    refine lv_astore_n (lv' := [(3, .ref r2), (0, .ref a0), (1, .int x1_), (2, .int x2_)]) hx hb dX6_motor_8 rfl hl (by decide) rfl (fun ls hl => ?_)
    refine lv_aload_n hx hb dX6_motor_9 rfl (lv_at hl 0 rfl) ?_
    refine lv_ifnonnull (tgt := 15) hx hb dX6_motor_10 (by decide) ?_
    refine lv_iload_n hx hb dX6_motor_15 rfl (lv_at hl 3 rfl) ?_
    by_cases c4 : x2_ = 0
    · have hF := it_t hF c4
      refine lv_tableIn (tgt := 84) hx hb dX6_motor_16 (by rw [c4]; decide) (by rw [c4]; decide) (by rw [c4]; rfl) (by decide) ?_
      refine lv_aload_n hx hb dX6_motor_84 rfl (lv_at hl 0 rfl) ?_
      refine gf_2_2 C h kr2 iz_X2 (List.mem_cons_of_mem _ wd_30_8) dX6_motor_85 ?_
      exact bz_iret C h hlocks hr hF dX6_motor_88
    have hF := it_f hF c4
    by_cases c5 : x2_ = 1
    · have hF := it_t hF c5
      refine lv_tableIn (tgt := 89) hx hb dX6_motor_16 (by rw [c5]; decide) (by rw [c5]; decide) (by rw [c5]; rfl) (by decide) ?_
      refine lv_aload_n hx hb dX6_motor_89 rfl (lv_at hl 0 rfl) ?_
      refine gf_2_3 C h kr2 iz_X2 (List.mem_cons_of_mem _ wd_30_9) dX6_motor_90 ?_
      exact bz_iret C h hlocks hr hF dX6_motor_93
    have hF := it_f hF c5
    by_cases c6 : x2_ = 2
    · have hF := it_t hF c6
      refine lv_tableIn (tgt := 94) hx hb dX6_motor_16 (by rw [c6]; decide) (by rw [c6]; decide) (by rw [c6]; rfl) (by decide) ?_
      refine lv_aload_n hx hb dX6_motor_94 rfl (lv_at hl 0 rfl) ?_
      refine gf_2_4 C h kr2 iz_X2 (List.mem_cons_of_mem _ wd_30_10) dX6_motor_95 ?_
      exact bz_iret C h hlocks hr hF dX6_motor_98
    have hF := it_f hF c6
    by_cases c7 : x2_ = 3
    · have hF := it_t hF c7
      refine lv_tableIn (tgt := 99) hx hb dX6_motor_16 (by rw [c7]; decide) (by rw [c7]; decide) (by rw [c7]; rfl) (by decide) ?_
      refine lv_aload_n hx hb dX6_motor_99 rfl (lv_at hl 0 rfl) ?_
      refine gf_2_5 C h kr2 iz_X2 (List.mem_cons_of_mem _ wd_11_4) dX6_motor_100 ?_
      exact bz_iret C h hlocks hr hF dX6_motor_103
    have hF := it_f hF c7
    by_cases c8 : x2_ = 4
    · have hF := it_t hF c8
      refine lv_tableIn (tgt := 104) hx hb dX6_motor_16 (by rw [c8]; decide) (by rw [c8]; decide) (by rw [c8]; rfl) (by decide) ?_
      refine lv_aload_n hx hb dX6_motor_104 rfl (lv_at hl 0 rfl) ?_
      refine gf_2_7 C h kr2 iz_X2 (List.mem_cons_of_mem _ wd_9_2) dX6_motor_105 ?_
      exact bz_iret C h hlocks hr hF dX6_motor_108
    have hF := it_f hF c8
    by_cases c9 : x2_ = 5
    · have hF := it_t hF c9
      refine lv_tableIn (tgt := 109) hx hb dX6_motor_16 (by rw [c9]; decide) (by rw [c9]; decide) (by rw [c9]; rfl) (by decide) ?_
      refine lv_aload_n hx hb dX6_motor_109 rfl (lv_at hl 0 rfl) ?_
      refine gf_2_8 C h kr2 iz_X2 (List.mem_cons_of_mem _ wd_10_17) dX6_motor_110 ?_
      exact bz_iret C h hlocks hr hF dX6_motor_113
    have hF := it_f hF c9
    by_cases c10 : x2_ = 6
    · have hF := it_t hF c10
      refine lv_tableIn (tgt := 114) hx hb dX6_motor_16 (by rw [c10]; decide) (by rw [c10]; decide) (by rw [c10]; rfl) (by decide) ?_
      refine lv_aload_n hx hb dX6_motor_114 rfl (lv_at hl 0 rfl) ?_
      refine gf_2_9 C h kr2 iz_X2 (List.mem_cons_of_mem _ wd_11_3) dX6_motor_115 ?_
      exact bz_iret C h hlocks hr hF dX6_motor_118
    have hF := it_f hF c10
    by_cases c11 : x2_ = 7
    · have hF := it_t hF c11
      refine lv_tableIn (tgt := 119) hx hb dX6_motor_16 (by rw [c11]; decide) (by rw [c11]; decide) (by rw [c11]; rfl) (by decide) ?_
      refine lv_aload_n hx hb dX6_motor_119 rfl (lv_at hl 0 rfl) ?_
      refine gf_2_10 C h kr2 iz_X2 (List.mem_cons_of_mem _ wd_10_22) dX6_motor_120 ?_
      exact bz_iret C h hlocks hr hF dX6_motor_123
    have hF := it_f hF c11
    by_cases c12 : x2_ = 8
    · have hF := it_t hF c12
      refine lv_tableIn (tgt := 124) hx hb dX6_motor_16 (by rw [c12]; decide) (by rw [c12]; decide) (by rw [c12]; rfl) (by decide) ?_
      refine lv_aload_n hx hb dX6_motor_124 rfl (lv_at hl 0 rfl) ?_
      refine gf_2_8 C h kr2 iz_X2 (List.mem_cons_of_mem _ wd_10_17) dX6_motor_125 ?_
      refine lv_iconst (v := 2) hx hb dX6_motor_128 (by decide) ?_
      refine lv_icmp_ne (tgt := 139) hx hb dX6_motor_129 (by decide) (fun c13 => ?_) (fun c13 => ?_)
      · have hF := it_f hF c13
        refine lv_bipush (v := (-4)) hx hb dX6_motor_139 (by decide) ?_
        exact bz_iret C h hlocks hr hF dX6_motor_141
      · have hF := it_t hF c13
        refine lv_aload_n hx hb dX6_motor_132 rfl (lv_at hl 0 rfl) ?_
        refine gf_2_11 C h kr2 iz_X2 (List.mem_cons_of_mem _ wd_17_10) dX6_motor_133 ?_
        refine lv_goto (tgt := 141) hx hb dX6_motor_136 (by decide) ?_
        exact bz_iret C h hlocks hr hF dX6_motor_141
    have hF := it_f hF c12
    by_cases c14 : x2_ = 9
    · have hF := it_t hF c14
      refine lv_tableIn (tgt := 142) hx hb dX6_motor_16 (by rw [c14]; decide) (by rw [c14]; decide) (by rw [c14]; rfl) (by decide) ?_
      refine lv_aload_n hx hb dX6_motor_142 rfl (lv_at hl 0 rfl) ?_
      refine gf_2_8 C h kr2 iz_X2 (List.mem_cons_of_mem _ wd_10_17) dX6_motor_143 ?_
      refine lv_iconst (v := 1) hx hb dX6_motor_146 (by decide) ?_
      refine lv_icmp_ne (tgt := 165) hx hb dX6_motor_147 (by decide) (fun c15 => ?_) (fun c15 => ?_)
      · have hF := it_f hF c15
        refine lv_bipush (v := (-4)) hx hb dX6_motor_165 (by decide) ?_
        exact bz_iret C h hlocks hr hF dX6_motor_167
      · have hF := it_t hF c15
        refine lv_aload_n hx hb dX6_motor_150 rfl (lv_at hl 1 rfl) ?_
        refine gf_6_0 C h ka0 iz_X6 (List.mem_cons_of_mem _ wd_1_15) dX6_motor_151 (fun k16 => ?_)
        refine gf_3_4 C h k16 iz_X3 (List.mem_cons_of_mem _ wd_11_9) dX6_motor_154 ?_
        refine lv_aload_n hx hb dX6_motor_157 rfl (lv_at hl 0 rfl) ?_
        refine gf_2_12 C h kr2 iz_X2 (List.mem_cons_of_mem _ wd_11_10) dX6_motor_158 ?_
        refine lv_isub hx hb dX6_motor_161 ?_
        refine lv_goto (tgt := 167) hx hb dX6_motor_162 (by decide) ?_
        exact bz_iret C h hlocks hr hF dX6_motor_167
    have hF := it_f hF c14
    by_cases c17 : x2_ = 10
    · have hF := it_t hF c17
      refine lv_tableIn (tgt := 168) hx hb dX6_motor_16 (by rw [c17]; decide) (by rw [c17]; decide) (by rw [c17]; rfl) (by decide) ?_
      refine lv_aload_n hx hb dX6_motor_168 rfl (lv_at hl 0 rfl) ?_
      obtain ⟨r18, σ19, qr18, hF⟩ := bd_u hF
      refine bz_callV (rest := []) (st1 := [.int r18]) C h (As := []) (o := some (.int r18)) (τ := σ19) (c_X2_draw (l := l) kr2 (res := (r18, σ19)) qr18) kr2 (by decide) (ci := 2) rfl (cwV 0 hts (bz_gV wd_30_16 wd_18_8 wd_18_9 wd_2_14 wd_18_10) rfl rfl rfl (by decide +kernel) ⟨Nat.le_of_ble_eq_true rfl, Nat.le_of_ble_eq_true rfl⟩) rfl hl.1 rfl (by decide) ⟨Nat.zero_le _, Nat.zero_le _⟩ dX6_motor_169 rfl (fun H locs h => ?_)
      exact bz_iret C h hlocks hr hF dX6_motor_172
    have hF := it_f hF c17
    by_cases c20 : x2_ = 11
    · have hF := it_t hF c20
      refine lv_tableIn (tgt := 173) hx hb dX6_motor_16 (by rw [c20]; decide) (by rw [c20]; decide) (by rw [c20]; rfl) (by decide) ?_
      refine lv_aload_n hx hb dX6_motor_173 rfl (lv_at hl 0 rfl) ?_
      refine gf_2_8 C h kr2 iz_X2 (List.mem_cons_of_mem _ wd_10_17) dX6_motor_174 ?_
      refine lv_iconst (v := 4) hx hb dX6_motor_177 (by decide) ?_
      refine lv_icmp_ne (tgt := 188) hx hb dX6_motor_178 (by decide) (fun c21 => ?_) (fun c21 => ?_)
      · have hF := it_f hF c21
        refine lv_bipush (v := (-4)) hx hb dX6_motor_188 (by decide) ?_
        exact bz_iret C h hlocks hr hF dX6_motor_190
      · have hF := it_t hF c21
        refine lv_aload_n hx hb dX6_motor_181 rfl (lv_at hl 0 rfl) ?_
        refine gf_2_13 C h kr2 iz_X2 (List.mem_cons_of_mem _ wd_30_11) dX6_motor_182 ?_
        refine lv_goto (tgt := 190) hx hb dX6_motor_185 (by decide) ?_
        exact bz_iret C h hlocks hr hF dX6_motor_190
    have hF := it_f hF c20
    by_cases c22 : x2_ = 12
    · have hF := it_t hF c22
      refine lv_tableIn (tgt := 191) hx hb dX6_motor_16 (by rw [c22]; decide) (by rw [c22]; decide) (by rw [c22]; rfl) (by decide) ?_
      refine lv_iconst (v := 0) hx hb dX6_motor_191 (by decide) ?_
      refine lv_aload_n hx hb dX6_motor_192 rfl (lv_at hl 0 rfl) ?_
      obtain ⟨r23, σ24, qr23, hF⟩ := bd_u hF
      refine bz_callV (rest := [.int 0]) (st1 := [.int r23, .int 0]) C h (As := []) (o := some (.int r23)) (τ := σ24) (c_X2_credit (l := l) kr2 (res := (r23, σ24)) qr23) kr2 (by decide) (ci := 2) rfl (cwV 0 hts (bz_gV wd_30_17 wd_17_19 wd_17_20 wd_2_14 wd_17_21) rfl rfl rfl (by decide +kernel) ⟨Nat.le_of_ble_eq_true rfl, Nat.le_of_ble_eq_true rfl⟩) rfl hl.1 rfl (Nat.le_of_ble_eq_true rfl) ⟨Nat.zero_le _, Nat.zero_le _⟩ dX6_motor_193 rfl (fun H locs h => ?_)
      refine va_mmax hx hb (C.2.2.1.trans hl.1.symm) C.2.2.2.1 (hts _ (List.mem_cons_of_mem _ wd_30_12)) (hts _ (List.mem_cons_of_mem _ wd_30_13)) (hts _ (List.mem_cons_of_mem _ wd_30_14)) (hts _ (List.mem_cons_of_mem _ wd_30_15)) (by decide) (Nat.le_of_ble_eq_true rfl) (Nat.zero_le _) (Nat.zero_le _) dX6_motor_196 ?_
      exact bz_iret C h hlocks hr hF dX6_motor_199
    have hF := it_f hF c22
    refine lv_tableOut (tgt := 200) hx hb dX6_motor_16 (bz_out13 c4 c5 c6 c7 c8 c9 c10 c11 c12 c14 c17 c20 c22) (by decide) ?_
    refine lv_bipush (v := (-2)) hx hb dX6_motor_200 (by decide) ?_
    exact bz_iret C h hlocks hr hF dX6_motor_202
set_option maxHeartbeats 4000000 in
set_option maxRecDepth 100000 in
theorem c_X6_account {l : Launch} {G : bz_G} {σ : bz_W} {a0 : Nat} {x1_ : Int32} {x2_ : Int32} (ka0 : bz_k G a0 = (7, 0)) {res : Int32 × bz_W} (hF : f_X6_account σ a0 x1_ x2_ = some res) : bz_M l yX6_account wz_X6_account 1 22 G σ [.ref a0, .int x1_, .int x2_] (some (.int res.1)) res.2 := by
  refine bz_mk (cc := cX6_account) (maxL := 4) (ret := (some .int)) (own := RX6) (by decide) rfl rfl (Nat.le_of_ble_eq_true rfl) ?_
  intro p e s m args below meth c ls C hlocks hr h hl
  have hx := C.1
  have hb := C.2.1
  have hts := C.2.2.2.2.1
  have hl : lv_has ls 4 [(0, .ref a0), (1, .int x1_), (2, .int x2_)] := hl
  obtain ⟨H, eH⟩ : ∃ y, y = s.heap := ⟨_, rfl⟩
  obtain ⟨locs, el⟩ : ∃ y : List Loc, y = [] := ⟨_, rfl⟩
  rw [← el, ← eH] at h ⊢
  unfold f_X6_account at hF
  refine lv_aload_n hx hb dX6_account_0 rfl (lv_at hl 0 rfl) ?_
  refine gf_6_0 C h ka0 iz_X6 (List.mem_cons_of_mem _ wd_1_15) dX6_account_1 (fun k1 => ?_)
  refine lv_iload_n hx hb dX6_account_4 rfl (lv_at hl 1 rfl) ?_
  obtain ⟨r2, σ3, qr2, hF⟩ := bd_u hF
  have h0 := h
  refine bz_callV (rest := []) (st1 := [bz_rv r2]) C h (As := [.int x1_]) (o := some (bz_rv r2)) (τ := σ3) (c_X3_find (l := l) k1 (res := (r2, σ3)) qr2) k1 (by decide) (ci := 3) rfl (cwV 1 hts (bz_gV wd_9_3 wd_9_4 wd_9_5 wd_1_14 wd_9_6) rfl rfl rfl (by decide +kernel) ⟨Nat.le_of_ble_eq_true rfl, Nat.le_of_ble_eq_true rfl⟩) rfl hl.1 rfl (by decide) ⟨Nat.zero_le _, Nat.zero_le _⟩ dX6_account_5 rfl (fun H locs h => ?_)
  by_cases zr2 : r2 = 0
  · have hF := it_t hF zr2
    rw [show bz_rv r2 = .null by rw [zr2]; rfl]
    refine lv_astore_nN (lv' := [(3, .null), (0, .ref a0), (1, .int x1_), (2, .int x2_)]) hx hb dX6_account_8 rfl hl (by decide) rfl (fun ls hl => ?_)
    refine lv_aload_nN hx hb dX6_account_9 rfl (lv_at hl 0 rfl) ?_
    refine lv_ifnonnullN hx hb dX6_account_10 ?_
    refine lv_iconst (v := (-1)) hx hb dX6_account_13 (by decide) ?_
    exact bz_iret C h hlocks hr hF dX6_account_14
  · have hF := it_f hF zr2
    have kr2 := kd_X3_find k1 h0.2.1 qr2 zr2
    rw [bz_rv0 C.2.2.2.2.2.1.2.2.2 kr2 (by decide)]
    refine lv_astore_n (lv' := [(3, .ref r2), (0, .ref a0), (1, .int x1_), (2, .int x2_)]) hx hb dX6_account_8 rfl hl (by decide) rfl (fun ls hl => ?_)
    refine lv_aload_n hx hb dX6_account_9 rfl (lv_at hl 0 rfl) ?_
    refine lv_ifnonnull (tgt := 15) hx hb dX6_account_10 (by decide) ?_
    refine lv_iload_n hx hb dX6_account_15 rfl (lv_at hl 3 rfl) ?_
    refine lv_iconst (v := 0) hx hb dX6_account_16 (by decide) ?_
    refine lv_bipush (v := 6) hx hb dX6_account_17 (by decide) ?_
    obtain ⟨r4, σ5, qr4, hF⟩ := bd_u hF
    refine bz_callS (rest := []) (st1 := [.int r4]) C h (As := [.int x2_, .int 0, .int 6]) (o := some (.int r4)) (τ := σ5) (c_X6_isOutside (l := l)  (res := (r4, σ5)) qr4) (va_cwS 3 hts (bz_gS wd_5_1 wd_5_2 wd_1_2 wd_5_3) rfl rfl rfl (by decide +kernel) ⟨Nat.le_of_ble_eq_true rfl, Nat.le_of_ble_eq_true rfl⟩) rfl hl.1 rfl (by decide) ⟨Nat.zero_le _, Nat.zero_le _⟩ dX6_account_19 rfl (fun H locs h => ?_)
    refine lv_if_eq (tgt := 30) hx hb dX6_account_22 (by decide) (fun c6 => ?_) (fun c6 => ?_)
    · have hF := it_t hF c6
      refine lv_aload_n hx hb dX6_account_30 rfl (lv_at hl 0 rfl) ?_
      refine gf_2_1 C h kr2 iz_X2 (List.mem_cons_of_mem _ wd_17_11) dX6_account_31 (fun k7 => ?_)
      refine lv_iload_n hx hb dX6_account_34 rfl (lv_at hl 3 rfl) ?_
      obtain ⟨c8, hF⟩ := ck_u hF
      refine bz_iald C h k7 c8 (kx := x2_.toNatClampNeg) rfl dX6_account_35 ?_
      exact bz_iret C h hlocks hr hF dX6_account_36
    · have hF := it_f hF c6
      refine lv_bipush (v := (-2)) hx hb dX6_account_25 (by decide) ?_
      refine lv_goto (tgt := 36) hx hb dX6_account_27 (by decide) ?_
      exact bz_iret C h hlocks hr hF dX6_account_36
set_option maxHeartbeats 4000000 in
set_option maxRecDepth 100000 in
theorem c_X6_queue {l : Launch} {G : bz_G} {σ : bz_W} {a0 : Nat} {x1_ : Int32} (ka0 : bz_k G a0 = (7, 0)) {res : Int32 × bz_W} (hF : f_X6_queue σ a0 x1_ = some res) : bz_M l yX6_queue wz_X6_queue 3 70 G σ [.ref a0, .int x1_] (some (.int res.1)) res.2 := by
  refine bz_mk (cc := cX6_queue) (maxL := 3) (ret := (some .int)) (own := RX6) (by decide) rfl rfl (Nat.le_of_ble_eq_true rfl) ?_
  intro p e s m args below meth c ls C hlocks hr h hl
  have hx := C.1
  have hb := C.2.1
  have hts := C.2.2.2.2.1
  have hl : lv_has ls 3 [(0, .ref a0), (1, .int x1_)] := hl
  obtain ⟨H, eH⟩ : ∃ y, y = s.heap := ⟨_, rfl⟩
  obtain ⟨locs, el⟩ : ∃ y : List Loc, y = [] := ⟨_, rfl⟩
  rw [← el, ← eH] at h ⊢
  unfold f_X6_queue at hF
  refine lv_iload_n hx hb dX6_queue_0 rfl (lv_at hl 1 rfl) ?_
  refine lv_if_ge (tgt := 7) hx hb dX6_queue_1 (by decide) (fun c1 => ?_) (fun c1 => ?_)
  · have hF := it_t hF c1
    refine lv_aload_n hx hb dX6_queue_7 rfl (lv_at hl 0 rfl) ?_
    obtain ⟨r2, σ3, qr2, hF⟩ := bd_u hF
    refine bz_callV (rest := []) (st1 := [.int r2]) C h (As := []) (o := some (.int r2)) (τ := σ3) (c_X6_fillLine (l := l) ka0 (res := (r2, σ3)) qr2) ka0 (by decide) (ci := 6) rfl (cwV 0 hts (bz_gV wd_13_0 wd_13_1 wd_13_2 wd_1_2 wd_13_3) rfl rfl rfl (by decide +kernel) ⟨Nat.le_of_ble_eq_true rfl, Nat.le_of_ble_eq_true rfl⟩) rfl hl.1 rfl (by decide) ⟨Nat.zero_le _, Nat.zero_le _⟩ dX6_queue_8 rfl (fun H locs h => ?_)
    refine lv_istore_n (lv' := [(2, .int r2), (0, .ref a0), (1, .int x1_)]) hx hb dX6_queue_11 rfl hl (by decide) rfl (fun ls hl => ?_)
    refine lv_iload_n hx hb dX6_queue_12 rfl (lv_at hl 2 rfl) ?_
    refine lv_iload_n hx hb dX6_queue_13 rfl (lv_at hl 0 rfl) ?_
    refine lv_icmp_ge (tgt := 26) hx hb dX6_queue_14 (by decide) (fun c4 => ?_) (fun c4 => ?_)
    · have hF := it_t hF c4
      refine lv_bipush (v := (-4)) hx hb dX6_queue_26 (by decide) ?_
      exact bz_iret C h hlocks hr hF dX6_queue_28
    · have hF := it_f hF c4
      refine lv_aload_n hx hb dX6_queue_17 rfl (lv_at hl 1 rfl) ?_
      refine gf_6_6 C h ka0 iz_X6 (List.mem_cons_of_mem _ wd_2_6) dX6_queue_18 (fun k5 => ?_)
      refine lv_iload_n hx hb dX6_queue_21 rfl (lv_at hl 2 rfl) ?_
      obtain ⟨c6, hF⟩ := ck_u hF
      refine bz_iald C h k5 c6 (kx := x1_.toNatClampNeg) rfl dX6_queue_22 ?_
      refine lv_goto (tgt := 28) hx hb dX6_queue_23 (by decide) ?_
      exact bz_iret C h hlocks hr hF dX6_queue_28
  · have hF := it_f hF c1
    refine lv_bipush (v := (-2)) hx hb dX6_queue_4 (by decide) ?_
    exact bz_iret C h hlocks hr hF dX6_queue_6
set_option maxHeartbeats 4000000 in
set_option maxRecDepth 100000 in
theorem c_X6_whyNot {l : Launch} {G : bz_G} {σ : bz_W} {a0 : Nat} {x1_ : Int32} (ka0 : bz_k G a0 = (7, 0)) {res : Int32 × bz_W} (hF : f_X6_whyNot σ a0 x1_ = some res) : bz_M l yX6_whyNot wz_X6_whyNot 4 86 G σ [.ref a0, .int x1_] (some (.int res.1)) res.2 := by
  refine bz_mk (cc := cX6_whyNot) (maxL := 3) (ret := (some .int)) (own := RX6) (by decide) rfl rfl (Nat.le_of_ble_eq_true rfl) ?_
  intro p e s m args below meth c ls C hlocks hr h hl
  have hx := C.1
  have hb := C.2.1
  have hts := C.2.2.2.2.1
  have hl : lv_has ls 3 [(0, .ref a0), (1, .int x1_)] := hl
  obtain ⟨H, eH⟩ : ∃ y, y = s.heap := ⟨_, rfl⟩
  obtain ⟨locs, el⟩ : ∃ y : List Loc, y = [] := ⟨_, rfl⟩
  rw [← el, ← eH] at h ⊢
  unfold f_X6_whyNot at hF
  refine lv_aload_n hx hb dX6_whyNot_0 rfl (lv_at hl 0 rfl) ?_
  refine gf_6_0 C h ka0 iz_X6 (List.mem_cons_of_mem _ wd_1_15) dX6_whyNot_1 (fun k1 => ?_)
  refine lv_iload_n hx hb dX6_whyNot_4 rfl (lv_at hl 1 rfl) ?_
  obtain ⟨r2, σ3, qr2, hF⟩ := bd_u hF
  have h0 := h
  refine bz_callV (rest := []) (st1 := [bz_rv r2]) C h (As := [.int x1_]) (o := some (bz_rv r2)) (τ := σ3) (c_X3_find (l := l) k1 (res := (r2, σ3)) qr2) k1 (by decide) (ci := 3) rfl (cwV 1 hts (bz_gV wd_9_3 wd_9_4 wd_9_5 wd_1_14 wd_9_6) rfl rfl rfl (by decide +kernel) ⟨Nat.le_of_ble_eq_true rfl, Nat.le_of_ble_eq_true rfl⟩) rfl hl.1 rfl (by decide) ⟨Nat.zero_le _, Nat.zero_le _⟩ dX6_whyNot_5 rfl (fun H locs h => ?_)
  by_cases zr2 : r2 = 0
  · have hF := it_t hF zr2
    rw [show bz_rv r2 = .null by rw [zr2]; rfl]
    refine lv_astore_nN (lv' := [(2, .null), (0, .ref a0), (1, .int x1_)]) hx hb dX6_whyNot_8 rfl hl (by decide) rfl (fun ls hl => ?_)
    refine lv_aload_nN hx hb dX6_whyNot_9 rfl (lv_at hl 0 rfl) ?_
    refine lv_ifnonnullN hx hb dX6_whyNot_10 ?_
    refine lv_iconst (v := (-1)) hx hb dX6_whyNot_13 (by decide) ?_
    exact bz_iret C h hlocks hr hF dX6_whyNot_14
  · have hF := it_f hF zr2
    have kr2 := kd_X3_find k1 h0.2.1 qr2 zr2
    rw [bz_rv0 C.2.2.2.2.2.1.2.2.2 kr2 (by decide)]
    refine lv_astore_n (lv' := [(2, .ref r2), (0, .ref a0), (1, .int x1_)]) hx hb dX6_whyNot_8 rfl hl (by decide) rfl (fun ls hl => ?_)
    refine lv_aload_n hx hb dX6_whyNot_9 rfl (lv_at hl 0 rfl) ?_
    refine lv_ifnonnull (tgt := 15) hx hb dX6_whyNot_10 (by decide) ?_
    refine lv_aload_n hx hb dX6_whyNot_15 rfl (lv_at hl 0 rfl) ?_
    refine gf_2_8 C h kr2 iz_X2 (List.mem_cons_of_mem _ wd_10_17) dX6_whyNot_16 ?_
    refine lv_iconst (v := 1) hx hb dX6_whyNot_19 (by decide) ?_
    refine lv_icmp_ne (tgt := 34) hx hb dX6_whyNot_20 (by decide) (fun c4 => ?_) (fun c4 => ?_)
    · have hF := it_f hF c4
      refine lv_bipush (v := (-4)) hx hb dX6_whyNot_34 (by decide) ?_
      exact bz_iret C h hlocks hr hF dX6_whyNot_36
    · have hF := it_t hF c4
      refine lv_aload_n hx hb dX6_whyNot_23 rfl (lv_at hl 1 rfl) ?_
      refine gf_6_0 C h ka0 iz_X6 (List.mem_cons_of_mem _ wd_1_15) dX6_whyNot_24 (fun k5 => ?_)
      refine lv_aload_n hx hb dX6_whyNot_27 rfl (lv_at hl 0 rfl) ?_
      obtain ⟨r6, σ7, qr6, hF⟩ := bd_u hF
      refine bz_callV (rest := []) (st1 := [.int r6]) C h (As := [.ref r2]) (o := some (.int r6)) (τ := σ7) (c_X3_reasonAgainst (l := l) k5 kr2 (res := (r6, σ7)) qr6) k5 (by decide) (ci := 3) rfl (cwV 1 hts (bz_gV wd_17_12 wd_17_13 wd_17_14 wd_1_14 wd_17_15) rfl rfl rfl (by decide +kernel) ⟨Nat.le_of_ble_eq_true rfl, Nat.le_of_ble_eq_true rfl⟩) rfl hl.1 rfl (by decide) ⟨Nat.zero_le _, Nat.zero_le _⟩ dX6_whyNot_28 rfl (fun H locs h => ?_)
      refine lv_goto (tgt := 36) hx hb dX6_whyNot_31 (by decide) ?_
      exact bz_iret C h hlocks hr hF dX6_whyNot_36
set_option maxHeartbeats 4000000 in
set_option maxRecDepth 100000 in
theorem c_X6_event {l : Launch} {G : bz_G} {σ : bz_W} {a0 : Nat} {x1_ : Int32} {x2_ : Int32} (ka0 : bz_k G a0 = (7, 0)) {res : Int32 × bz_W} (hF : f_X6_event σ a0 x1_ x2_ = some res) : bz_M l yX6_event wz_X6_event 2 47 G σ [.ref a0, .int x1_, .int x2_] (some (.int res.1)) res.2 := by
  refine bz_mk (cc := cX6_event) (maxL := 3) (ret := (some .int)) (own := RX6) (by decide) rfl rfl (Nat.le_of_ble_eq_true rfl) ?_
  intro p e s m args below meth c ls C hlocks hr h hl
  have hx := C.1
  have hb := C.2.1
  have hts := C.2.2.2.2.1
  have hl : lv_has ls 3 [(0, .ref a0), (1, .int x1_), (2, .int x2_)] := hl
  obtain ⟨H, eH⟩ : ∃ y, y = s.heap := ⟨_, rfl⟩
  obtain ⟨locs, el⟩ : ∃ y : List Loc, y = [] := ⟨_, rfl⟩
  rw [← el, ← eH] at h ⊢
  unfold f_X6_event at hF
  refine lv_iload_n hx hb dX6_event_0 rfl (lv_at hl 1 rfl) ?_
  refine lv_if_lt (tgt := 13) hx hb dX6_event_1 (by decide) (fun c1 => ?_) (fun c1 => ?_)
  · have hF := it_t hF c1
    refine lv_bipush (v := (-2)) hx hb dX6_event_13 (by decide) ?_
    exact bz_iret C h hlocks hr hF dX6_event_15
  · have hF := it_f hF c1
    refine lv_iload_n hx hb dX6_event_4 rfl (lv_at hl 2 rfl) ?_
    refine lv_iconst (v := 0) hx hb dX6_event_5 (by decide) ?_
    refine lv_iconst (v := 2) hx hb dX6_event_6 (by decide) ?_
    obtain ⟨r2, σ3, qr2, hF⟩ := bd_u hF
    refine bz_callS (rest := []) (st1 := [.int r2]) C h (As := [.int x2_, .int 0, .int 2]) (o := some (.int r2)) (τ := σ3) (c_X6_isOutside (l := l)  (res := (r2, σ3)) qr2) (va_cwS 3 hts (bz_gS wd_5_1 wd_5_2 wd_1_2 wd_5_3) rfl rfl rfl (by decide +kernel) ⟨Nat.le_of_ble_eq_true rfl, Nat.le_of_ble_eq_true rfl⟩) rfl hl.1 rfl (by decide) ⟨Nat.zero_le _, Nat.zero_le _⟩ dX6_event_7 rfl (fun H locs h => ?_)
    refine lv_if_eq (tgt := 16) hx hb dX6_event_10 (by decide) (fun c4 => ?_) (fun c4 => ?_)
    · have hF := it_t hF c4
      refine lv_aload_n hx hb dX6_event_16 rfl (lv_at hl 0 rfl) ?_
      refine gf_6_0 C h ka0 iz_X6 (List.mem_cons_of_mem _ wd_1_15) dX6_event_17 (fun k5 => ?_)
      refine gf_3_2 C h k5 iz_X3 (List.mem_cons_of_mem _ wd_32_2) dX6_event_20 (fun k6 => ?_)
      refine lv_iload_n hx hb dX6_event_23 rfl (lv_at hl 1 rfl) ?_
      refine lv_iload_n hx hb dX6_event_24 rfl (lv_at hl 2 rfl) ?_
      obtain ⟨r7, σ8, qr7, hF⟩ := bd_u hF
      refine bz_callV (rest := []) (st1 := [.int r7]) C h (As := [.int x1_, .int x2_]) (o := some (.int r7)) (τ := σ8) (c_X0_tell (l := l) k6 (res := (r7, σ8)) qr7) k6 (by decide) (ci := 0) rfl (cwV 2 hts (bz_gV wd_32_3 wd_32_4 wd_32_5 wd_2_19 wd_32_6) rfl rfl rfl (by decide +kernel) ⟨Nat.le_of_ble_eq_true rfl, Nat.le_of_ble_eq_true rfl⟩) rfl hl.1 rfl (by decide) ⟨Nat.zero_le _, Nat.zero_le _⟩ dX6_event_25 rfl (fun H locs h => ?_)
      exact bz_iret C h hlocks hr hF dX6_event_28
    · have hF := it_f hF c4
      refine lv_bipush (v := (-2)) hx hb dX6_event_13 (by decide) ?_
      exact bz_iret C h hlocks hr hF dX6_event_15
set_option maxHeartbeats 4000000 in
set_option maxRecDepth 100000 in
theorem c_X6_item {l : Launch} {G : bz_G} {σ : bz_W} {a0 : Nat} {x1_ : Int32} {x2_ : Int32} (ka0 : bz_k G a0 = (7, 0)) {res : Int32 × bz_W} (hF : f_X6_item σ a0 x1_ x2_ = some res) : bz_M l yX6_item wz_X6_item 2 44 G σ [.ref a0, .int x1_, .int x2_] (some (.int res.1)) res.2 := by
  refine bz_mk (cc := cX6_item) (maxL := 3) (ret := (some .int)) (own := RX6) (by decide) rfl rfl (Nat.le_of_ble_eq_true rfl) ?_
  intro p e s m args below meth c ls C hlocks hr h hl
  have hx := C.1
  have hb := C.2.1
  have hts := C.2.2.2.2.1
  have hl : lv_has ls 3 [(0, .ref a0), (1, .int x1_), (2, .int x2_)] := hl
  obtain ⟨H, eH⟩ : ∃ y, y = s.heap := ⟨_, rfl⟩
  obtain ⟨locs, el⟩ : ∃ y : List Loc, y = [] := ⟨_, rfl⟩
  rw [← el, ← eH] at h ⊢
  unfold f_X6_item at hF
  refine lv_iload_n hx hb dX6_item_0 rfl (lv_at hl 1 rfl) ?_
  refine lv_if_lt (tgt := 13) hx hb dX6_item_1 (by decide) (fun c1 => ?_) (fun c1 => ?_)
  · have hF := it_t hF c1
    refine lv_bipush (v := (-2)) hx hb dX6_item_13 (by decide) ?_
    exact bz_iret C h hlocks hr hF dX6_item_15
  · have hF := it_f hF c1
    refine lv_iload_n hx hb dX6_item_4 rfl (lv_at hl 2 rfl) ?_
    refine lv_iconst (v := 0) hx hb dX6_item_5 (by decide) ?_
    refine lv_iconst (v := 3) hx hb dX6_item_6 (by decide) ?_
    obtain ⟨r2, σ3, qr2, hF⟩ := bd_u hF
    refine bz_callS (rest := []) (st1 := [.int r2]) C h (As := [.int x2_, .int 0, .int 3]) (o := some (.int r2)) (τ := σ3) (c_X6_isOutside (l := l)  (res := (r2, σ3)) qr2) (va_cwS 3 hts (bz_gS wd_5_1 wd_5_2 wd_1_2 wd_5_3) rfl rfl rfl (by decide +kernel) ⟨Nat.le_of_ble_eq_true rfl, Nat.le_of_ble_eq_true rfl⟩) rfl hl.1 rfl (by decide) ⟨Nat.zero_le _, Nat.zero_le _⟩ dX6_item_7 rfl (fun H locs h => ?_)
    refine lv_if_eq (tgt := 16) hx hb dX6_item_10 (by decide) (fun c4 => ?_) (fun c4 => ?_)
    · have hF := it_t hF c4
      refine lv_aload_n hx hb dX6_item_16 rfl (lv_at hl 0 rfl) ?_
      refine gf_6_0 C h ka0 iz_X6 (List.mem_cons_of_mem _ wd_1_15) dX6_item_17 (fun k5 => ?_)
      refine gf_3_1 C h k5 iz_X3 (List.mem_cons_of_mem _ wd_16_18) dX6_item_20 (fun k6 => ?_)
      refine lv_iload_n hx hb dX6_item_23 rfl (lv_at hl 1 rfl) ?_
      refine lv_iload_n hx hb dX6_item_24 rfl (lv_at hl 2 rfl) ?_
      refine lv_aload_n hx hb dX6_item_25 rfl (lv_at hl 0 rfl) ?_
      refine gf_6_0 C h ka0 iz_X6 (List.mem_cons_of_mem _ wd_1_15) dX6_item_26 (fun k7 => ?_)
      refine gf_3_4 C h k7 iz_X3 (List.mem_cons_of_mem _ wd_11_9) dX6_item_29 ?_
      obtain ⟨r8, σ9, qr8, hF⟩ := bd_u hF
      refine bz_callV (rest := []) (st1 := [.int r8]) C h (As := [.int x1_, .int x2_, .int (σ3.1 (σ3.2 a0 0) 4)]) (o := some (.int r8)) (τ := σ9) (c_X4_tell (l := l) k6 (res := (r8, σ9)) qr8) k6 (by decide) (ci := 4) rfl (cwV 3 hts (bz_gV wd_32_18 wd_32_19 wd_32_20 wd_2_3 wd_32_21) rfl rfl rfl (by decide +kernel) ⟨Nat.le_of_ble_eq_true rfl, Nat.le_of_ble_eq_true rfl⟩) rfl hl.1 rfl (by decide) ⟨Nat.zero_le _, Nat.zero_le _⟩ dX6_item_32 rfl (fun H locs h => ?_)
      exact bz_iret C h hlocks hr hF dX6_item_35
    · have hF := it_f hF c4
      refine lv_bipush (v := (-2)) hx hb dX6_item_13 (by decide) ?_
      exact bz_iret C h hlocks hr hF dX6_item_15
set_option maxHeartbeats 4000000 in
set_option maxRecDepth 100000 in
theorem c_X6_startHeat {l : Launch} {G : bz_G} {σ : bz_W} {a0 : Nat} {x1_ : Int32} (ka0 : bz_k G a0 = (7, 0)) {res : Int32 × bz_W} (hF : f_X6_startHeat σ a0 x1_ = some res) : bz_M l yX6_startHeat wz_X6_startHeat 1 21 G σ [.ref a0, .int x1_] (some (.int res.1)) res.2 := by
  refine bz_mk (cc := cX6_startHeat) (maxL := 3) (ret := (some .int)) (own := RX6) (by decide) rfl rfl (Nat.le_of_ble_eq_true rfl) ?_
  intro p e s m args below meth c ls C hlocks hr h hl
  have hx := C.1
  have hb := C.2.1
  have hts := C.2.2.2.2.1
  have hl : lv_has ls 3 [(0, .ref a0), (1, .int x1_)] := hl
  obtain ⟨H, eH⟩ : ∃ y, y = s.heap := ⟨_, rfl⟩
  obtain ⟨locs, el⟩ : ∃ y : List Loc, y = [] := ⟨_, rfl⟩
  rw [← el, ← eH] at h ⊢
  unfold f_X6_startHeat at hF
  refine lv_aload_n hx hb dX6_startHeat_0 rfl (lv_at hl 0 rfl) ?_
  refine gf_6_0 C h ka0 iz_X6 (List.mem_cons_of_mem _ wd_1_15) dX6_startHeat_1 (fun k1 => ?_)
  refine lv_iload_n hx hb dX6_startHeat_4 rfl (lv_at hl 1 rfl) ?_
  obtain ⟨r2, σ3, qr2, hF⟩ := bd_u hF
  have h0 := h
  refine bz_callV (rest := []) (st1 := [bz_rv r2]) C h (As := [.int x1_]) (o := some (bz_rv r2)) (τ := σ3) (c_X3_find (l := l) k1 (res := (r2, σ3)) qr2) k1 (by decide) (ci := 3) rfl (cwV 1 hts (bz_gV wd_9_3 wd_9_4 wd_9_5 wd_1_14 wd_9_6) rfl rfl rfl (by decide +kernel) ⟨Nat.le_of_ble_eq_true rfl, Nat.le_of_ble_eq_true rfl⟩) rfl hl.1 rfl (by decide) ⟨Nat.zero_le _, Nat.zero_le _⟩ dX6_startHeat_5 rfl (fun H locs h => ?_)
  by_cases zr2 : r2 = 0
  · have hF := it_t hF zr2
    rw [show bz_rv r2 = .null by rw [zr2]; rfl]
    refine lv_astore_nN (lv' := [(2, .null), (0, .ref a0), (1, .int x1_)]) hx hb dX6_startHeat_8 rfl hl (by decide) rfl (fun ls hl => ?_)
    refine lv_aload_nN hx hb dX6_startHeat_9 rfl (lv_at hl 0 rfl) ?_
    refine lv_ifnonnullN hx hb dX6_startHeat_10 ?_
    refine lv_iconst (v := (-1)) hx hb dX6_startHeat_13 (by decide) ?_
    refine lv_goto (tgt := 21) hx hb dX6_startHeat_14 (by decide) ?_
    exact bz_iret C h hlocks hr hF dX6_startHeat_21
  · have hF := it_f hF zr2
    have kr2 := kd_X3_find k1 h0.2.1 qr2 zr2
    rw [bz_rv0 C.2.2.2.2.2.1.2.2.2 kr2 (by decide)]
    refine lv_astore_n (lv' := [(2, .ref r2), (0, .ref a0), (1, .int x1_)]) hx hb dX6_startHeat_8 rfl hl (by decide) rfl (fun ls hl => ?_)
    refine lv_aload_n hx hb dX6_startHeat_9 rfl (lv_at hl 0 rfl) ?_
    refine lv_ifnonnull (tgt := 17) hx hb dX6_startHeat_10 (by decide) ?_
    refine lv_aload_n hx hb dX6_startHeat_17 rfl (lv_at hl 0 rfl) ?_
    refine gf_2_6 C h kr2 iz_X2 (List.mem_cons_of_mem _ wd_33_7) dX6_startHeat_18 ?_
    exact bz_iret C h hlocks hr hF dX6_startHeat_21
set_option maxHeartbeats 4000000 in
set_option maxRecDepth 100000 in
theorem L_X6_coolTime_L23 {p : Program} {l : Launch} {e : Env} {s : State} {m : MethodId} {args : Array Value} {below : List Frame} {meth : Method} {c : Code} {G : bz_G} (C : bz_C p s m c args cX6_coolTime 5 RX6 wz_X6_coolTime G) (hlocks : meth.locks = false) (hr : meth.sig.returnType = (some .int)) {a0 : Nat} {a2 : Nat} (ka0 : bz_k G a0 = (7, 0)) (ka2 : bz_k G a2 = (3, 0)) {k : bz_W → Option (Int32 × bz_W)} {res : Int32 × bz_W} : ∀ (n : Nat) (v3 : Int32) (v4 : Int32) (σ : bz_W) (H : Heap) (locs : List Loc) (ls : Array Slot), f_X6_coolTime_L23 a0 a2 k n v3 v4 σ = some res → bz_H G s σ H locs → lv_has ls 5 [(0, .ref a0), (2, .ref a2), (3, .int v3), (4, .int v4)] → (∀ (σ : bz_W) (H : Heap) (locs : List Loc) (ls : Array Slot), k σ = some res → bz_H G s σ H locs → lv_has ls 5 [] → W p l e ({ frames := 1, cells := 0, slots := 0, locals := 23 } : Room) s m args below meth c H locs 0 0 (MQ below (bz_Qc G (some (.int res.1)) res.2) args s 0 0 (bz_A G)) (F0 m 68 ls [])) → W p l e ({ frames := 1, cells := 0, slots := 0, locals := 23 } : Room) s m args below meth c H locs 0 0 (MQ below (bz_Qc G (some (.int res.1)) res.2) args s 0 0 (bz_A G)) (F0 m 23 ls []) := by
  have hx := C.1
  have hb := C.2.1
  have hts := C.2.2.2.2.1
  intro n
  induction n with
  | zero =>
    intro v3 v4 σ H locs ls hF
    exact absurd hF (by simp [f_X6_coolTime_L23])
  | succ n ih =>
    intro v3 v4 σ H locs ls hF h hl hk
    rw [f_X6_coolTime_L23] at hF
    refine lv_iload hx hb dX6_coolTime_23 (lv_at hl 3 rfl) ?_
    refine lv_sipush (v := 999) hx hb dX6_coolTime_25 (by decide) ?_
    refine lv_icmp_gt (tgt := 68) hx hb dX6_coolTime_28 (by decide) (fun c5 => ?_) (fun c5 => ?_)
    · have hF := it_t hF c5
      exact hk _ H locs ls hF h (lv_sub hl [] rfl)
    · have hF := it_f hF c5
      refine lv_aload_n hx hb dX6_coolTime_31 rfl (lv_at hl 1 rfl) ?_
      refine gf_2_5 C h ka2 iz_X2 (List.mem_cons_of_mem _ wd_11_4) dX6_coolTime_32 ?_
      refine lv_iload_n hx hb dX6_coolTime_35 rfl (lv_at hl 2 rfl) ?_
      refine lv_isub hx hb dX6_coolTime_36 ?_
      refine lv_aload_n hx hb dX6_coolTime_37 rfl (lv_at hl 1 rfl) ?_
      refine gf_2_6 C h ka2 iz_X2 (List.mem_cons_of_mem _ wd_33_7) dX6_coolTime_38 ?_
      refine lv_icmp_lt (tgt := 47) hx hb dX6_coolTime_41 (by decide) (fun c6 => ?_) (fun c6 => ?_)
      · have hF := it_t hF c6
        refine lv_iload_n hx hb dX6_coolTime_47 rfl (lv_at hl 2 rfl) ?_
        refine lv_iload_n hx hb dX6_coolTime_48 rfl (lv_at hl 2 rfl) ?_
        refine lv_iconst (v := 0) hx hb dX6_coolTime_49 (by decide) ?_
        refine lv_aload_n hx hb dX6_coolTime_50 rfl (lv_at hl 0 rfl) ?_
        refine gf_6_0 C h ka0 iz_X6 (List.mem_cons_of_mem _ wd_1_15) dX6_coolTime_51 (fun k7 => ?_)
        refine gf_3_6 C h k7 iz_X3 (List.mem_cons_of_mem _ wd_10_16) dX6_coolTime_54 ?_
        obtain ⟨r8, σ9, qr8, hF⟩ := bd_u hF
        refine bz_callS (rest := [.int v3]) (st1 := [.int r8, .int v3]) C h (As := [.int v3, .int 0, .int (σ.1 (σ.2 a0 0) 6)]) (o := some (.int r8)) (τ := σ9) (c_X6_givenOff (l := l)  (res := (r8, σ9)) qr8) (va_cwS 3 hts (bz_gS wd_33_16 wd_19_9 wd_1_2 wd_19_10) rfl rfl rfl (by decide +kernel) ⟨Nat.le_of_ble_eq_true rfl, Nat.le_of_ble_eq_true rfl⟩) rfl hl.1 rfl (Nat.le_of_ble_eq_true rfl) ⟨Nat.zero_le _, Nat.zero_le _⟩ dX6_coolTime_57 rfl (fun H locs h => ?_)
        refine lv_isub hx hb dX6_coolTime_60 ?_
        refine lv_topi (fun x10 ex10 => ?_)
        have hF := lt_u hF x10 ex10
        refine lv_istore_n (lv' := [(3, .int x10), (0, .ref a0), (2, .ref a2), (4, .int v4)]) hx hb dX6_coolTime_61 rfl hl (by decide) rfl (fun ls hl => ?_)
        obtain ⟨x11, ex11⟩ : ∃ y : Int32, y = v4 + 1 := ⟨_, rfl⟩
        have hF := lt_u hF x11 ex11
        refine lv_iinc (v := x11) (lv' := [(4, .int x11), (3, .int x10), (0, .ref a0), (2, .ref a2)]) hx hb dX6_coolTime_62 hl (k := 3) rfl (by rw [ex11]; rfl) (by decide) rfl (fun ls hl => ?_)
        refine lv_goto (tgt := 23) hx hb dX6_coolTime_65 (by decide) ?_
        exact ih _ _ _ H locs ls hF h (lv_sub hl [2, 3, 1, 0] rfl) hk
      · have hF := it_f hF c6
        refine lv_iload hx hb dX6_coolTime_44 (lv_at hl 3 rfl) ?_
        exact bz_iret C h hlocks hr hF dX6_coolTime_46
set_option maxHeartbeats 4000000 in
set_option maxRecDepth 100000 in
theorem c_X6_coolTime {l : Launch} {G : bz_G} {σ : bz_W} {a0 : Nat} {x1_ : Int32} (ka0 : bz_k G a0 = (7, 0)) {res : Int32 × bz_W} (hF : f_X6_coolTime σ a0 x1_ = some res) : bz_M l yX6_coolTime wz_X6_coolTime 1 23 G σ [.ref a0, .int x1_] (some (.int res.1)) res.2 := by
  refine bz_mk (cc := cX6_coolTime) (maxL := 5) (ret := (some .int)) (own := RX6) (by decide) rfl rfl (Nat.le_of_ble_eq_true rfl) ?_
  intro p e s m args below meth c ls C hlocks hr h hl
  have hx := C.1
  have hb := C.2.1
  have hts := C.2.2.2.2.1
  have hl : lv_has ls 5 [(0, .ref a0), (1, .int x1_)] := hl
  obtain ⟨H, eH⟩ : ∃ y, y = s.heap := ⟨_, rfl⟩
  obtain ⟨locs, el⟩ : ∃ y : List Loc, y = [] := ⟨_, rfl⟩
  rw [← el, ← eH] at h ⊢
  unfold f_X6_coolTime at hF
  refine lv_aload_n hx hb dX6_coolTime_0 rfl (lv_at hl 0 rfl) ?_
  refine gf_6_0 C h ka0 iz_X6 (List.mem_cons_of_mem _ wd_1_15) dX6_coolTime_1 (fun k1 => ?_)
  refine lv_iload_n hx hb dX6_coolTime_4 rfl (lv_at hl 1 rfl) ?_
  obtain ⟨r2, σ3, qr2, hF⟩ := bd_u hF
  have h0 := h
  refine bz_callV (rest := []) (st1 := [bz_rv r2]) C h (As := [.int x1_]) (o := some (bz_rv r2)) (τ := σ3) (c_X3_find (l := l) k1 (res := (r2, σ3)) qr2) k1 (by decide) (ci := 3) rfl (cwV 1 hts (bz_gV wd_9_3 wd_9_4 wd_9_5 wd_1_14 wd_9_6) rfl rfl rfl (by decide +kernel) ⟨Nat.le_of_ble_eq_true rfl, Nat.le_of_ble_eq_true rfl⟩) rfl hl.1 rfl (by decide) ⟨Nat.zero_le _, Nat.zero_le _⟩ dX6_coolTime_5 rfl (fun H locs h => ?_)
  by_cases zr2 : r2 = 0
  · have hF := it_t hF zr2
    rw [show bz_rv r2 = .null by rw [zr2]; rfl]
    refine lv_astore_nN (lv' := [(2, .null), (0, .ref a0), (1, .int x1_)]) hx hb dX6_coolTime_8 rfl hl (by decide) rfl (fun ls hl => ?_)
    refine lv_aload_nN hx hb dX6_coolTime_9 rfl (lv_at hl 0 rfl) ?_
    refine lv_ifnonnullN hx hb dX6_coolTime_10 ?_
    refine lv_iconst (v := (-1)) hx hb dX6_coolTime_13 (by decide) ?_
    exact bz_iret C h hlocks hr hF dX6_coolTime_14
  · have hF := it_f hF zr2
    have kr2 := kd_X3_find k1 h0.2.1 qr2 zr2
    rw [bz_rv0 C.2.2.2.2.2.1.2.2.2 kr2 (by decide)]
    refine lv_astore_n (lv' := [(2, .ref r2), (0, .ref a0), (1, .int x1_)]) hx hb dX6_coolTime_8 rfl hl (by decide) rfl (fun ls hl => ?_)
    refine lv_aload_n hx hb dX6_coolTime_9 rfl (lv_at hl 0 rfl) ?_
    refine lv_ifnonnull (tgt := 15) hx hb dX6_coolTime_10 (by decide) ?_
    refine lv_aload_n hx hb dX6_coolTime_15 rfl (lv_at hl 0 rfl) ?_
    refine gf_2_9 C h kr2 iz_X2 (List.mem_cons_of_mem _ wd_11_3) dX6_coolTime_16 ?_
    refine lv_topi (fun x4 ex4 => ?_)
    have hF := lt_u hF x4 ex4
    refine lv_istore_n (lv' := [(3, .int x4), (2, .ref r2), (0, .ref a0), (1, .int x1_)]) hx hb dX6_coolTime_19 rfl hl (by decide) rfl (fun ls hl => ?_)
    refine lv_iconst (v := 0) hx hb dX6_coolTime_20 (by decide) ?_
    refine lv_istore (lv' := [(4, .int 0), (3, .int x4), (2, .ref r2), (0, .ref a0), (1, .int x1_)]) hx hb dX6_coolTime_21 hl (by decide) rfl (fun ls hl => ?_)
    refine L_X6_coolTime_L23 C hlocks hr ka0 kr2 _ _ _ _ H locs ls hF h (lv_sub hl [3, 2, 1, 0] rfl) ?_
    intro σ12 H locs ls hF h hl
    refine lv_bipush (v := (-4)) hx hb dX6_coolTime_68 (by decide) ?_
    exact bz_iret C h hlocks hr hF dX6_coolTime_70
