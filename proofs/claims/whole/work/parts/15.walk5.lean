set_option maxHeartbeats 4000000 in
set_option maxRecDepth 100000 in
theorem L_X6_runTime_L23 {p : Program} {l : Launch} {e : Env} {s : State} {m : MethodId} {args : Array Value} {below : List Frame} {meth : Method} {c : Code} {G : bz_G} (C : bz_C p s m c args cX6_runTime 5 RX6 wz_X6_runTime G) (hlocks : meth.locks = false) (hr : meth.sig.returnType = (some .int)) {a0 : Nat} {a2 : Nat} (ka0 : bz_k G a0 = (7, 0)) (ka2 : bz_k G a2 = (3, 0)) {k : bz_W → Option (Int32 × bz_W)} {res : Int32 × bz_W} : ∀ (n : Nat) (v3 : Int32) (v4 : Int32) (σ : bz_W) (H : Heap) (locs : List Loc) (ls : Array Slot), f_X6_runTime_L23 a0 a2 k n v3 v4 σ = some res → bz_H G s σ H locs → lv_has ls 5 [(0, .ref a0), (2, .ref a2), (3, .int v3), (4, .int v4)] → (∀ (σ : bz_W) (H : Heap) (locs : List Loc) (ls : Array Slot), k σ = some res → bz_H G s σ H locs → lv_has ls 5 [] → W p l e ({ frames := 1, cells := 0, slots := 0, locals := 23 } : Room) s m args below meth c H locs 0 0 (MQ below (bz_Qc G (some (.int res.1)) res.2) args s 0 0 (bz_A G)) (F0 m 73 ls [])) → W p l e ({ frames := 1, cells := 0, slots := 0, locals := 23 } : Room) s m args below meth c H locs 0 0 (MQ below (bz_Qc G (some (.int res.1)) res.2) args s 0 0 (bz_A G)) (F0 m 23 ls []) := by
  have hx := C.1
  have hb := C.2.1
  have hts := C.2.2.2.2.1
  intro n
  induction n with
  | zero =>
    intro v3 v4 σ H locs ls hF
    exact absurd hF (by simp [f_X6_runTime_L23])
  | succ n ih =>
    intro v3 v4 σ H locs ls hF h hl hk
    rw [f_X6_runTime_L23] at hF
    refine lv_iload hx hb dX6_runTime_23 (lv_at hl 3 rfl) ?_
    refine lv_sipush (v := 999) hx hb dX6_runTime_25 (by decide) ?_
    refine lv_icmp_gt (tgt := 73) hx hb dX6_runTime_28 (by decide) (fun c5 => ?_) (fun c5 => ?_)
    · have hF := it_t hF c5
      exact hk _ H locs ls hF h (lv_sub hl [] rfl)
    · have hF := it_f hF c5
      refine lv_iload_n hx hb dX6_runTime_31 rfl (lv_at hl 2 rfl) ?_
      refine lv_aload_n hx hb dX6_runTime_32 rfl (lv_at hl 1 rfl) ?_
      refine gf_2_2 C h ka2 iz_X2 (List.mem_cons_of_mem _ wd_30_8) dX6_runTime_33 ?_
      obtain ⟨r6, σ7, qr6, hF⟩ := bd_u hF
      refine bz_callS (rest := [.int v3]) (st1 := [.int r6, .int v3]) C h (As := [.int (σ.1 a2 2)]) (o := some (.int r6)) (τ := σ7) (c_X6_heatOf (l := l)  (res := (r6, σ7)) qr6) (va_cwS 1 hts (bz_gS wd_7_21 wd_7_22 wd_1_2 wd_7_23) rfl rfl rfl (by decide +kernel) ⟨Nat.le_of_ble_eq_true rfl, Nat.le_of_ble_eq_true rfl⟩) rfl hl.1 rfl (Nat.le_of_ble_eq_true rfl) ⟨Nat.zero_le _, Nat.zero_le _⟩ dX6_runTime_36 rfl (fun H locs h => ?_)
      refine lv_iadd hx hb dX6_runTime_39 ?_
      refine lv_topi (fun x8 ex8 => ?_)
      have hF := lt_u hF x8 ex8
      refine lv_istore_n (lv' := [(3, .int x8), (0, .ref a0), (2, .ref a2), (4, .int v4)]) hx hb dX6_runTime_40 rfl hl (by decide) rfl (fun ls hl => ?_)
      refine lv_iload_n hx hb dX6_runTime_41 rfl (lv_at hl 0 rfl) ?_
      refine lv_iload_n hx hb dX6_runTime_42 rfl (lv_at hl 0 rfl) ?_
      refine lv_iconst (v := 1) hx hb dX6_runTime_43 (by decide) ?_
      refine lv_aload_n hx hb dX6_runTime_44 rfl (lv_at hl 1 rfl) ?_
      refine gf_6_0 C h ka0 iz_X6 (List.mem_cons_of_mem _ wd_1_15) dX6_runTime_45 (fun k9 => ?_)
      refine gf_3_6 C h k9 iz_X3 (List.mem_cons_of_mem _ wd_10_16) dX6_runTime_48 ?_
      obtain ⟨r10, σ11, qr10, hF⟩ := bd_u hF
      refine bz_callS (rest := [.int x8]) (st1 := [.int r10, .int x8]) C h (As := [.int x8, .int 1, .int (σ7.1 (σ7.2 a0 0) 6)]) (o := some (.int r10)) (τ := σ11) (c_X6_givenOff (l := l)  (res := (r10, σ11)) qr10) (va_cwS 3 hts (bz_gS wd_33_16 wd_19_9 wd_1_2 wd_19_10) rfl rfl rfl (by decide +kernel) ⟨Nat.le_of_ble_eq_true rfl, Nat.le_of_ble_eq_true rfl⟩) rfl hl.1 rfl (Nat.le_of_ble_eq_true rfl) ⟨Nat.zero_le _, Nat.zero_le _⟩ dX6_runTime_51 rfl (fun H locs h => ?_)
      refine lv_isub hx hb dX6_runTime_54 ?_
      refine lv_topi (fun x12 ex12 => ?_)
      have hF := lt_u hF x12 ex12
      refine lv_istore_n (lv' := [(3, .int x12), (0, .ref a0), (2, .ref a2), (4, .int v4)]) hx hb dX6_runTime_55 rfl hl (by decide) rfl (fun ls hl => ?_)
      refine lv_iload_n hx hb dX6_runTime_56 rfl (lv_at hl 0 rfl) ?_
      refine lv_aload_n hx hb dX6_runTime_57 rfl (lv_at hl 2 rfl) ?_
      refine gf_2_5 C h ka2 iz_X2 (List.mem_cons_of_mem _ wd_11_4) dX6_runTime_58 ?_
      refine lv_icmp_le (tgt := 67) hx hb dX6_runTime_61 (by decide) (fun c13 => ?_) (fun c13 => ?_)
      · have hF := it_t hF c13
        obtain ⟨x14, ex14⟩ : ∃ y : Int32, y = v4 + 1 := ⟨_, rfl⟩
        have hF := lt_u hF x14 ex14
        refine lv_iinc (v := x14) (lv' := [(4, .int x14), (3, .int x12), (0, .ref a0), (2, .ref a2)]) hx hb dX6_runTime_67 hl (k := 3) rfl (by rw [ex14]; rfl) (by decide) rfl (fun ls hl => ?_)
        refine lv_goto (tgt := 23) hx hb dX6_runTime_70 (by decide) ?_
        exact ih _ _ _ H locs ls hF h (lv_sub hl [2, 3, 1, 0] rfl) hk
      · have hF := it_f hF c13
        refine lv_iload hx hb dX6_runTime_64 (lv_at hl 3 rfl) ?_
        exact bz_iret C h hlocks hr hF dX6_runTime_66
set_option maxHeartbeats 4000000 in
set_option maxRecDepth 100000 in
theorem c_X6_runTime {l : Launch} {G : bz_G} {σ : bz_W} {a0 : Nat} {x1_ : Int32} (ka0 : bz_k G a0 = (7, 0)) {res : Int32 × bz_W} (hF : f_X6_runTime σ a0 x1_ = some res) : bz_M l yX6_runTime wz_X6_runTime 1 23 G σ [.ref a0, .int x1_] (some (.int res.1)) res.2 := by
  refine bz_mk (cc := cX6_runTime) (maxL := 5) (ret := (some .int)) (own := RX6) (by decide) rfl rfl (Nat.le_of_ble_eq_true rfl) ?_
  intro p e s m args below meth c ls C hlocks hr h hl
  have hx := C.1
  have hb := C.2.1
  have hts := C.2.2.2.2.1
  have hl : lv_has ls 5 [(0, .ref a0), (1, .int x1_)] := hl
  obtain ⟨H, eH⟩ : ∃ y, y = s.heap := ⟨_, rfl⟩
  obtain ⟨locs, el⟩ : ∃ y : List Loc, y = [] := ⟨_, rfl⟩
  rw [← el, ← eH] at h ⊢
  unfold f_X6_runTime at hF
  refine lv_aload_n hx hb dX6_runTime_0 rfl (lv_at hl 0 rfl) ?_
  refine gf_6_0 C h ka0 iz_X6 (List.mem_cons_of_mem _ wd_1_15) dX6_runTime_1 (fun k1 => ?_)
  refine lv_iload_n hx hb dX6_runTime_4 rfl (lv_at hl 1 rfl) ?_
  obtain ⟨r2, σ3, qr2, hF⟩ := bd_u hF
  have h0 := h
  refine bz_callV (rest := []) (st1 := [bz_rv r2]) C h (As := [.int x1_]) (o := some (bz_rv r2)) (τ := σ3) (c_X3_find (l := l) k1 (res := (r2, σ3)) qr2) k1 (by decide) (ci := 3) rfl (cwV 1 hts (bz_gV wd_9_3 wd_9_4 wd_9_5 wd_1_14 wd_9_6) rfl rfl rfl (by decide +kernel) ⟨Nat.le_of_ble_eq_true rfl, Nat.le_of_ble_eq_true rfl⟩) rfl hl.1 rfl (by decide) ⟨Nat.zero_le _, Nat.zero_le _⟩ dX6_runTime_5 rfl (fun H locs h => ?_)
  by_cases zr2 : r2 = 0
  · have hF := it_t hF zr2
    rw [show bz_rv r2 = .null by rw [zr2]; rfl]
    refine lv_astore_nN (lv' := [(2, .null), (0, .ref a0), (1, .int x1_)]) hx hb dX6_runTime_8 rfl hl (by decide) rfl (fun ls hl => ?_)
    refine lv_aload_nN hx hb dX6_runTime_9 rfl (lv_at hl 0 rfl) ?_
    refine lv_ifnonnullN hx hb dX6_runTime_10 ?_
    refine lv_iconst (v := (-1)) hx hb dX6_runTime_13 (by decide) ?_
    exact bz_iret C h hlocks hr hF dX6_runTime_14
  · have hF := it_f hF zr2
    have kr2 := kd_X3_find k1 h0.2.1 qr2 zr2
    rw [bz_rv0 C.2.2.2.2.2.1.2.2.2 kr2 (by decide)]
    refine lv_astore_n (lv' := [(2, .ref r2), (0, .ref a0), (1, .int x1_)]) hx hb dX6_runTime_8 rfl hl (by decide) rfl (fun ls hl => ?_)
    refine lv_aload_n hx hb dX6_runTime_9 rfl (lv_at hl 0 rfl) ?_
    refine lv_ifnonnull (tgt := 15) hx hb dX6_runTime_10 (by decide) ?_
    refine lv_aload_n hx hb dX6_runTime_15 rfl (lv_at hl 0 rfl) ?_
    refine gf_2_9 C h kr2 iz_X2 (List.mem_cons_of_mem _ wd_11_3) dX6_runTime_16 ?_
    refine lv_topi (fun x4 ex4 => ?_)
    have hF := lt_u hF x4 ex4
    refine lv_istore_n (lv' := [(3, .int x4), (2, .ref r2), (0, .ref a0), (1, .int x1_)]) hx hb dX6_runTime_19 rfl hl (by decide) rfl (fun ls hl => ?_)
    refine lv_iconst (v := 1) hx hb dX6_runTime_20 (by decide) ?_
    refine lv_istore (lv' := [(4, .int 1), (3, .int x4), (2, .ref r2), (0, .ref a0), (1, .int x1_)]) hx hb dX6_runTime_21 hl (by decide) rfl (fun ls hl => ?_)
    refine L_X6_runTime_L23 C hlocks hr ka0 kr2 _ _ _ _ H locs ls hF h (lv_sub hl [3, 2, 1, 0] rfl) ?_
    intro σ15 H locs ls hF h hl
    refine lv_bipush (v := (-4)) hx hb dX6_runTime_73 (by decide) ?_
    exact bz_iret C h hlocks hr hF dX6_runTime_75
set_option maxHeartbeats 4000000 in
set_option maxRecDepth 100000 in
theorem L_X6_longestRamp_L18 {p : Program} {l : Launch} {e : Env} {s : State} {m : MethodId} {args : Array Value} {below : List Frame} {meth : Method} {c : Code} {G : bz_G} (C : bz_C p s m c args cX6_longestRamp 4 RX6 wz_X6_longestRamp G) (hlocks : meth.locks = false) (hr : meth.sig.returnType = (some .int)) {a2 : Nat} (ka2 : bz_k G a2 = (3, 0)) {k : bz_W → Option (Int32 × bz_W)} {res : Int32 × bz_W} : ∀ (n : Nat) (v3 : Int32) (σ : bz_W) (H : Heap) (locs : List Loc) (ls : Array Slot), f_X6_longestRamp_L18 a2 k n v3 σ = some res → bz_H G s σ H locs → lv_has ls 4 [(2, .ref a2), (3, .int v3)] → (∀ (σ : bz_W) (H : Heap) (locs : List Loc) (ls : Array Slot), k σ = some res → bz_H G s σ H locs → lv_has ls 4 [] → W p l e ({ frames := 2, cells := 0, slots := 0, locals := 45 } : Room) s m args below meth c H locs 0 0 (MQ below (bz_Qc G (some (.int res.1)) res.2) args s 0 0 (bz_A G)) (F0 m 46 ls [])) → W p l e ({ frames := 2, cells := 0, slots := 0, locals := 45 } : Room) s m args below meth c H locs 0 0 (MQ below (bz_Qc G (some (.int res.1)) res.2) args s 0 0 (bz_A G)) (F0 m 18 ls []) := by
  have hx := C.1
  have hb := C.2.1
  have hts := C.2.2.2.2.1
  intro n
  induction n with
  | zero =>
    intro v3 σ H locs ls hF
    exact absurd hF (by simp [f_X6_longestRamp_L18])
  | succ n ih =>
    intro v3 σ H locs ls hF h hl hk
    rw [f_X6_longestRamp_L18] at hF
    refine lv_iload_n hx hb dX6_longestRamp_18 rfl (lv_at hl 1 rfl) ?_
    refine lv_iconst (v := 2) hx hb dX6_longestRamp_19 (by decide) ?_
    refine lv_icmp_lt (tgt := 46) hx hb dX6_longestRamp_20 (by decide) (fun c4 => ?_) (fun c4 => ?_)
    · have hF := it_t hF c4
      exact hk _ H locs ls hF h (lv_sub hl [] rfl)
    · have hF := it_f hF c4
      refine lv_aload_n hx hb dX6_longestRamp_23 rfl (lv_at hl 0 rfl) ?_
      obtain ⟨r5, σ6, qr5, hF⟩ := bd_u hF
      refine bz_callV (rest := []) (st1 := [.int r5]) C h (As := []) (o := some (.int r5)) (τ := σ6) (c_X2_peak (l := l) ka2 (res := (r5, σ6)) qr5) ka2 (by decide) (ci := 2) rfl (cwV 0 hts (bz_gV wd_34_9 wd_17_23 wd_18_0 wd_2_14 wd_18_1) rfl rfl rfl (by decide +kernel) ⟨Nat.le_of_ble_eq_true rfl, Nat.le_of_ble_eq_true rfl⟩) rfl hl.1 rfl (by decide) ⟨Nat.zero_le _, Nat.zero_le _⟩ dX6_longestRamp_24 rfl (fun H locs h => ?_)
      refine lv_iload_n hx hb dX6_longestRamp_27 rfl (lv_at hl 1 rfl) ?_
      obtain ⟨r7, σ8, qr7, hF⟩ := bd_u hF
      refine bz_callS (rest := []) (st1 := [.int r7]) C h (As := [.int r5, .int v3]) (o := some (.int r7)) (τ := σ8) (c_X6_heatOfStart (l := l)  (res := (r7, σ8)) qr7) (va_cwS 2 hts (bz_gS wd_34_10 wd_7_16 wd_1_2 wd_7_17) rfl rfl rfl (by decide +kernel) ⟨Nat.le_of_ble_eq_true rfl, Nat.le_of_ble_eq_true rfl⟩) rfl hl.1 rfl (by decide) ⟨Nat.zero_le _, Nat.zero_le _⟩ dX6_longestRamp_28 rfl (fun H locs h => ?_)
      refine lv_aload_n hx hb dX6_longestRamp_31 rfl (lv_at hl 0 rfl) ?_
      obtain ⟨r9, σ10, qr9, hF⟩ := bd_u hF
      refine bz_callV (rest := [.int r7]) (st1 := [.int r9, .int r7]) C h (As := []) (o := some (.int r9)) (τ := σ10) (c_X2_credit (l := l) ka2 (res := (r9, σ10)) qr9) ka2 (by decide) (ci := 2) rfl (cwV 0 hts (bz_gV wd_30_17 wd_17_19 wd_17_20 wd_2_14 wd_17_21) rfl rfl rfl (by decide +kernel) ⟨Nat.le_of_ble_eq_true rfl, Nat.le_of_ble_eq_true rfl⟩) rfl hl.1 rfl (Nat.le_of_ble_eq_true rfl) ⟨Nat.zero_le _, Nat.zero_le _⟩ dX6_longestRamp_32 rfl (fun H locs h => ?_)
      refine lv_icmp_gt (tgt := 40) hx hb dX6_longestRamp_35 (by decide) (fun c11 => ?_) (fun c11 => ?_)
      · have hF := it_t hF c11
        obtain ⟨x12, ex12⟩ : ∃ y : Int32, y = v3 + (-1) := ⟨_, rfl⟩
        have hF := lt_u hF x12 ex12
        refine lv_iinc (v := x12) (lv' := [(3, .int x12), (2, .ref a2)]) hx hb dX6_longestRamp_40 hl (k := 1) rfl (by rw [ex12]; rfl) (by decide) rfl (fun ls hl => ?_)
        refine lv_goto (tgt := 18) hx hb dX6_longestRamp_43 (by decide) ?_
        exact ih _ _ H locs ls hF h (lv_sub hl [1, 0] rfl) hk
      · have hF := it_f hF c11
        refine lv_iload_n hx hb dX6_longestRamp_38 rfl (lv_at hl 1 rfl) ?_
        exact bz_iret C h hlocks hr hF dX6_longestRamp_39
set_option maxHeartbeats 4000000 in
set_option maxRecDepth 100000 in
theorem c_X6_longestRamp {l : Launch} {G : bz_G} {σ : bz_W} {a0 : Nat} {x1_ : Int32} (ka0 : bz_k G a0 = (7, 0)) {res : Int32 × bz_W} (hF : f_X6_longestRamp σ a0 x1_ = some res) : bz_M l yX6_longestRamp wz_X6_longestRamp 2 45 G σ [.ref a0, .int x1_] (some (.int res.1)) res.2 := by
  refine bz_mk (cc := cX6_longestRamp) (maxL := 4) (ret := (some .int)) (own := RX6) (by decide) rfl rfl (Nat.le_of_ble_eq_true rfl) ?_
  intro p e s m args below meth c ls C hlocks hr h hl
  have hx := C.1
  have hb := C.2.1
  have hts := C.2.2.2.2.1
  have hl : lv_has ls 4 [(0, .ref a0), (1, .int x1_)] := hl
  obtain ⟨H, eH⟩ : ∃ y, y = s.heap := ⟨_, rfl⟩
  obtain ⟨locs, el⟩ : ∃ y : List Loc, y = [] := ⟨_, rfl⟩
  rw [← el, ← eH] at h ⊢
  unfold f_X6_longestRamp at hF
  refine lv_aload_n hx hb dX6_longestRamp_0 rfl (lv_at hl 0 rfl) ?_
  refine gf_6_0 C h ka0 iz_X6 (List.mem_cons_of_mem _ wd_1_15) dX6_longestRamp_1 (fun k1 => ?_)
  refine lv_iload_n hx hb dX6_longestRamp_4 rfl (lv_at hl 1 rfl) ?_
  obtain ⟨r2, σ3, qr2, hF⟩ := bd_u hF
  have h0 := h
  refine bz_callV (rest := []) (st1 := [bz_rv r2]) C h (As := [.int x1_]) (o := some (bz_rv r2)) (τ := σ3) (c_X3_find (l := l) k1 (res := (r2, σ3)) qr2) k1 (by decide) (ci := 3) rfl (cwV 1 hts (bz_gV wd_9_3 wd_9_4 wd_9_5 wd_1_14 wd_9_6) rfl rfl rfl (by decide +kernel) ⟨Nat.le_of_ble_eq_true rfl, Nat.le_of_ble_eq_true rfl⟩) rfl hl.1 rfl (by decide) ⟨Nat.zero_le _, Nat.zero_le _⟩ dX6_longestRamp_5 rfl (fun H locs h => ?_)
  by_cases zr2 : r2 = 0
  · have hF := it_t hF zr2
    rw [show bz_rv r2 = .null by rw [zr2]; rfl]
    refine lv_astore_nN (lv' := [(2, .null), (0, .ref a0), (1, .int x1_)]) hx hb dX6_longestRamp_8 rfl hl (by decide) rfl (fun ls hl => ?_)
    refine lv_aload_nN hx hb dX6_longestRamp_9 rfl (lv_at hl 0 rfl) ?_
    refine lv_ifnonnullN hx hb dX6_longestRamp_10 ?_
    refine lv_iconst (v := (-1)) hx hb dX6_longestRamp_13 (by decide) ?_
    exact bz_iret C h hlocks hr hF dX6_longestRamp_14
  · have hF := it_f hF zr2
    have kr2 := kd_X3_find k1 h0.2.1 qr2 zr2
    rw [bz_rv0 C.2.2.2.2.2.1.2.2.2 kr2 (by decide)]
    refine lv_astore_n (lv' := [(2, .ref r2), (0, .ref a0), (1, .int x1_)]) hx hb dX6_longestRamp_8 rfl hl (by decide) rfl (fun ls hl => ?_)
    refine lv_aload_n hx hb dX6_longestRamp_9 rfl (lv_at hl 0 rfl) ?_
    refine lv_ifnonnull (tgt := 15) hx hb dX6_longestRamp_10 (by decide) ?_
    refine lv_bipush (v := 30) hx hb dX6_longestRamp_15 (by decide) ?_
    refine lv_istore_n (lv' := [(3, .int 30), (2, .ref r2), (0, .ref a0), (1, .int x1_)]) hx hb dX6_longestRamp_17 rfl hl (by decide) rfl (fun ls hl => ?_)
    refine L_X6_longestRamp_L18 C hlocks hr kr2 _ _ _ H locs ls hF h (lv_sub hl [1, 0] rfl) ?_
    intro σ13 H locs ls hF h hl
    refine lv_bipush (v := (-4)) hx hb dX6_longestRamp_46 (by decide) ?_
    exact bz_iret C h hlocks hr hF dX6_longestRamp_48
set_option maxHeartbeats 4000000 in
set_option maxRecDepth 100000 in
theorem c_X6_count {l : Launch} {G : bz_G} {σ : bz_W} {a0 : Nat} {x1_ : Int32} (ka0 : bz_k G a0 = (7, 0)) {res : Int32 × bz_W} (hF : f_X6_count σ a0 x1_ = some res) : bz_M l yX6_count wz_X6_count 3 64 G σ [.ref a0, .int x1_] (some (.int res.1)) res.2 := by
  refine bz_mk (cc := cX6_count) (maxL := 2) (ret := (some .int)) (own := RX6) (by decide) rfl rfl (Nat.le_of_ble_eq_true rfl) ?_
  intro p e s m args below meth c ls C hlocks hr h hl
  have hx := C.1
  have hb := C.2.1
  have hts := C.2.2.2.2.1
  have hl : lv_has ls 2 [(0, .ref a0), (1, .int x1_)] := hl
  obtain ⟨H, eH⟩ : ∃ y, y = s.heap := ⟨_, rfl⟩
  obtain ⟨locs, el⟩ : ∃ y : List Loc, y = [] := ⟨_, rfl⟩
  rw [← el, ← eH] at h ⊢
  unfold f_X6_count at hF
  refine lv_iload_n hx hb dX6_count_0 rfl (lv_at hl 1 rfl) ?_
  obtain ⟨j2, ej2, hF⟩ := lt_j hF
  have hj2 : ∀ (σ1 : bz_W) (H : Heap) (locs : List Loc) (ls : Array Slot), j2 σ1 = some res → bz_H G s σ1 H locs → lv_has ls 2 [(0, .ref a0), (1, .int x1_)] → W p l e ({ frames := 3, cells := 0, slots := 0, locals := 64 } : Room) s m args below meth c H locs 0 0 (MQ below (bz_Qc G (some (.int res.1)) res.2) args s 0 0 (bz_A G)) (F0 m 96 ls []) := by
      intro σ1 H locs ls hF h hl
      subst ej2
      refine lv_aload_n hx hb dX6_count_96 rfl (lv_at hl 0 rfl) ?_
      refine gf_6_0 C h ka0 iz_X6 (List.mem_cons_of_mem _ wd_1_15) dX6_count_97 (fun k3 => ?_)
      refine lv_iload_n hx hb dX6_count_100 rfl (lv_at hl 1 rfl) ?_
      obtain ⟨r4, σ5, qr4, hF⟩ := bd_u hF
      refine bz_callV (rest := []) (st1 := [.int r4]) C h (As := [.int x1_]) (o := some (.int r4)) (τ := σ5) (c_X3_motorsInMode (l := l) k3 (res := (r4, σ5)) qr4) k3 (by decide) (ci := 3) rfl (cwV 1 hts (bz_gV wd_34_20 wd_34_21 wd_34_22 wd_1_14 wd_34_23) rfl rfl rfl (by decide +kernel) ⟨Nat.le_of_ble_eq_true rfl, Nat.le_of_ble_eq_true rfl⟩) rfl hl.1 rfl (by decide) ⟨Nat.zero_le _, Nat.zero_le _⟩ dX6_count_101 rfl (fun H locs h => ?_)
      exact bz_iret C h hlocks hr hF dX6_count_104
  by_cases c6 : x1_ = 0
  · have hF := it_t hF c6
    refine lv_tableIn (tgt := 88) hx hb dX6_count_1 (by rw [c6]; decide) (by rw [c6]; decide) (by rw [c6]; rfl) (by decide) ?_
    refine lv_aload_n hx hb dX6_count_88 rfl (lv_at hl 0 rfl) ?_
    refine gf_6_0 C h ka0 iz_X6 (List.mem_cons_of_mem _ wd_1_15) dX6_count_89 (fun k7 => ?_)
    refine gf_3_3 C h k7 iz_X3 (List.mem_cons_of_mem _ wd_4_23) dX6_count_92 ?_
    exact bz_iret C h hlocks hr hF dX6_count_95
  have hF := it_f hF c6
  by_cases c8 : x1_ = 1
  · have hF := it_t hF c8
    refine lv_tableIn (tgt := 96) hx hb dX6_count_1 (by rw [c8]; decide) (by rw [c8]; decide) (by rw [c8]; rfl) (by decide) ?_
    exact hj2 _ H locs ls hF h (lv_sub hl [0, 1] rfl)
  have hF := it_f hF c8
  by_cases c9 : x1_ = 2
  · have hF := it_t hF c9
    refine lv_tableIn (tgt := 96) hx hb dX6_count_1 (by rw [c9]; decide) (by rw [c9]; decide) (by rw [c9]; rfl) (by decide) ?_
    exact hj2 _ H locs ls hF h (lv_sub hl [0, 1] rfl)
  have hF := it_f hF c9
  by_cases c10 : x1_ = 3
  · have hF := it_t hF c10
    refine lv_tableIn (tgt := 96) hx hb dX6_count_1 (by rw [c10]; decide) (by rw [c10]; decide) (by rw [c10]; rfl) (by decide) ?_
    exact hj2 _ H locs ls hF h (lv_sub hl [0, 1] rfl)
  have hF := it_f hF c10
  by_cases c11 : x1_ = 4
  · have hF := it_t hF c11
    refine lv_tableIn (tgt := 96) hx hb dX6_count_1 (by rw [c11]; decide) (by rw [c11]; decide) (by rw [c11]; rfl) (by decide) ?_
    exact hj2 _ H locs ls hF h (lv_sub hl [0, 1] rfl)
  have hF := it_f hF c11
  by_cases c12 : x1_ = 5
  · have hF := it_t hF c12
    refine lv_tableIn (tgt := 105) hx hb dX6_count_1 (by rw [c12]; decide) (by rw [c12]; decide) (by rw [c12]; rfl) (by decide) ?_
    refine lv_aload_n hx hb dX6_count_105 rfl (lv_at hl 0 rfl) ?_
    refine gf_6_0 C h ka0 iz_X6 (List.mem_cons_of_mem _ wd_1_15) dX6_count_106 (fun k13 => ?_)
    refine gf_3_4 C h k13 iz_X3 (List.mem_cons_of_mem _ wd_11_9) dX6_count_109 ?_
    exact bz_iret C h hlocks hr hF dX6_count_112
  have hF := it_f hF c12
  by_cases c14 : x1_ = 6
  · have hF := it_t hF c14
    refine lv_tableIn (tgt := 113) hx hb dX6_count_1 (by rw [c14]; decide) (by rw [c14]; decide) (by rw [c14]; rfl) (by decide) ?_
    refine lv_aload_n hx hb dX6_count_113 rfl (lv_at hl 0 rfl) ?_
    refine gf_6_0 C h ka0 iz_X6 (List.mem_cons_of_mem _ wd_1_15) dX6_count_114 (fun k15 => ?_)
    refine gf_3_5 C h k15 iz_X3 (List.mem_cons_of_mem _ wd_9_23) dX6_count_117 ?_
    exact bz_iret C h hlocks hr hF dX6_count_120
  have hF := it_f hF c14
  by_cases c16 : x1_ = 7
  · have hF := it_t hF c16
    refine lv_tableIn (tgt := 121) hx hb dX6_count_1 (by rw [c16]; decide) (by rw [c16]; decide) (by rw [c16]; rfl) (by decide) ?_
    refine lv_aload_n hx hb dX6_count_121 rfl (lv_at hl 0 rfl) ?_
    refine gf_6_0 C h ka0 iz_X6 (List.mem_cons_of_mem _ wd_1_15) dX6_count_122 (fun k17 => ?_)
    refine gf_3_6 C h k17 iz_X3 (List.mem_cons_of_mem _ wd_10_16) dX6_count_125 ?_
    refine lv_if_eq (tgt := 135) hx hb dX6_count_128 (by decide) (fun c18 => ?_) (fun c18 => ?_)
    · have hF := it_t hF c18
      refine lv_iconst (v := 0) hx hb dX6_count_135 (by decide) ?_
      exact bz_iret C h hlocks hr hF dX6_count_136
    · have hF := it_f hF c18
      refine lv_iconst (v := 1) hx hb dX6_count_131 (by decide) ?_
      refine lv_goto (tgt := 136) hx hb dX6_count_132 (by decide) ?_
      exact bz_iret C h hlocks hr hF dX6_count_136
  have hF := it_f hF c16
  by_cases c19 : x1_ = 8
  · have hF := it_t hF c19
    refine lv_tableIn (tgt := 137) hx hb dX6_count_1 (by rw [c19]; decide) (by rw [c19]; decide) (by rw [c19]; rfl) (by decide) ?_
    refine lv_aload_n hx hb dX6_count_137 rfl (lv_at hl 0 rfl) ?_
    refine gf_6_7 C h ka0 iz_X6 (List.mem_cons_of_mem _ wd_5_8) dX6_count_138 ?_
    exact bz_iret C h hlocks hr hF dX6_count_141
  have hF := it_f hF c19
  by_cases c20 : x1_ = 9
  · have hF := it_t hF c20
    refine lv_tableIn (tgt := 142) hx hb dX6_count_1 (by rw [c20]; decide) (by rw [c20]; decide) (by rw [c20]; rfl) (by decide) ?_
    refine lv_aload_n hx hb dX6_count_142 rfl (lv_at hl 0 rfl) ?_
    refine gf_6_0 C h ka0 iz_X6 (List.mem_cons_of_mem _ wd_1_15) dX6_count_143 (fun k21 => ?_)
    refine gf_3_1 C h k21 iz_X3 (List.mem_cons_of_mem _ wd_16_18) dX6_count_146 (fun k22 => ?_)
    obtain ⟨r23, σ24, qr23, hF⟩ := bd_u hF
    refine bz_callV (rest := []) (st1 := [.int r23]) C h (As := []) (o := some (.int r23)) (τ := σ24) (c_X4_left (l := l) k22 (res := (r23, σ24)) qr23) k22 (by decide) (ci := 4) rfl (cwV 0 hts (bz_gV wd_27_6 wd_27_7 wd_27_8 wd_2_3 wd_27_9) rfl rfl rfl (by decide +kernel) ⟨Nat.le_of_ble_eq_true rfl, Nat.le_of_ble_eq_true rfl⟩) rfl hl.1 rfl (by decide) ⟨Nat.zero_le _, Nat.zero_le _⟩ dX6_count_149 rfl (fun H locs h => ?_)
    exact bz_iret C h hlocks hr hF dX6_count_152
  have hF := it_f hF c20
  by_cases c25 : x1_ = 10
  · have hF := it_t hF c25
    refine lv_tableIn (tgt := 153) hx hb dX6_count_1 (by rw [c25]; decide) (by rw [c25]; decide) (by rw [c25]; rfl) (by decide) ?_
    refine lv_aload_n hx hb dX6_count_153 rfl (lv_at hl 0 rfl) ?_
    refine gf_6_0 C h ka0 iz_X6 (List.mem_cons_of_mem _ wd_1_15) dX6_count_154 (fun k26 => ?_)
    refine gf_3_7 C h k26 iz_X3 (List.mem_cons_of_mem _ wd_17_5) dX6_count_157 ?_
    exact bz_iret C h hlocks hr hF dX6_count_160
  have hF := it_f hF c25
  by_cases c27 : x1_ = 11
  · have hF := it_t hF c27
    refine lv_tableIn (tgt := 161) hx hb dX6_count_1 (by rw [c27]; decide) (by rw [c27]; decide) (by rw [c27]; rfl) (by decide) ?_
    refine lv_aload_n hx hb dX6_count_161 rfl (lv_at hl 0 rfl) ?_
    refine gf_6_0 C h ka0 iz_X6 (List.mem_cons_of_mem _ wd_1_15) dX6_count_162 (fun k28 => ?_)
    refine lv_iconst (v := 0) hx hb dX6_count_165 (by decide) ?_
    obtain ⟨r29, σ30, qr29, hF⟩ := bd_u hF
    refine bz_callV (rest := []) (st1 := [.int r29]) C h (As := [.int 0]) (o := some (.int r29)) (τ := σ30) (c_X3_sumOfAccount (l := l) k28 (res := (r29, σ30)) qr29) k28 (by decide) (ci := 3) rfl (cwV 1 hts (bz_gV wd_35_0 wd_35_1 wd_35_2 wd_1_14 wd_35_3) rfl rfl rfl (by decide +kernel) ⟨Nat.le_of_ble_eq_true rfl, Nat.le_of_ble_eq_true rfl⟩) rfl hl.1 rfl (by decide) ⟨Nat.zero_le _, Nat.zero_le _⟩ dX6_count_166 rfl (fun H locs h => ?_)
    exact bz_iret C h hlocks hr hF dX6_count_169
  have hF := it_f hF c27
  by_cases c31 : x1_ = 12
  · have hF := it_t hF c31
    refine lv_tableIn (tgt := 170) hx hb dX6_count_1 (by rw [c31]; decide) (by rw [c31]; decide) (by rw [c31]; rfl) (by decide) ?_
    refine lv_aload_n hx hb dX6_count_170 rfl (lv_at hl 0 rfl) ?_
    refine gf_6_0 C h ka0 iz_X6 (List.mem_cons_of_mem _ wd_1_15) dX6_count_171 (fun k32 => ?_)
    refine lv_iconst (v := 1) hx hb dX6_count_174 (by decide) ?_
    obtain ⟨r33, σ34, qr33, hF⟩ := bd_u hF
    refine bz_callV (rest := []) (st1 := [.int r33]) C h (As := [.int 1]) (o := some (.int r33)) (τ := σ34) (c_X3_sumOfAccount (l := l) k32 (res := (r33, σ34)) qr33) k32 (by decide) (ci := 3) rfl (cwV 1 hts (bz_gV wd_35_0 wd_35_1 wd_35_2 wd_1_14 wd_35_3) rfl rfl rfl (by decide +kernel) ⟨Nat.le_of_ble_eq_true rfl, Nat.le_of_ble_eq_true rfl⟩) rfl hl.1 rfl (by decide) ⟨Nat.zero_le _, Nat.zero_le _⟩ dX6_count_175 rfl (fun H locs h => ?_)
    exact bz_iret C h hlocks hr hF dX6_count_178
  have hF := it_f hF c31
  by_cases c35 : x1_ = 13
  · have hF := it_t hF c35
    refine lv_tableIn (tgt := 179) hx hb dX6_count_1 (by rw [c35]; decide) (by rw [c35]; decide) (by rw [c35]; rfl) (by decide) ?_
    refine lv_aload_n hx hb dX6_count_179 rfl (lv_at hl 0 rfl) ?_
    refine gf_6_0 C h ka0 iz_X6 (List.mem_cons_of_mem _ wd_1_15) dX6_count_180 (fun k36 => ?_)
    obtain ⟨r37, σ38, qr37, hF⟩ := bd_u hF
    refine bz_callV (rest := []) (st1 := [.int r37]) C h (As := []) (o := some (.int r37)) (τ := σ38) (c_X3_sumOfHeat (l := l) k36 (res := (r37, σ38)) qr37) k36 (by decide) (ci := 3) rfl (cwV 0 hts (bz_gV wd_35_5 wd_35_6 wd_35_7 wd_1_14 wd_35_8) rfl rfl rfl (by decide +kernel) ⟨Nat.le_of_ble_eq_true rfl, Nat.le_of_ble_eq_true rfl⟩) rfl hl.1 rfl (by decide) ⟨Nat.zero_le _, Nat.zero_le _⟩ dX6_count_183 rfl (fun H locs h => ?_)
    exact bz_iret C h hlocks hr hF dX6_count_186
  have hF := it_f hF c35
  by_cases c39 : x1_ = 14
  · have hF := it_t hF c39
    refine lv_tableIn (tgt := 187) hx hb dX6_count_1 (by rw [c39]; decide) (by rw [c39]; decide) (by rw [c39]; rfl) (by decide) ?_
    refine lv_aload_n hx hb dX6_count_187 rfl (lv_at hl 0 rfl) ?_
    refine gf_6_0 C h ka0 iz_X6 (List.mem_cons_of_mem _ wd_1_15) dX6_count_188 (fun k40 => ?_)
    obtain ⟨r41, σ42, qr41, hF⟩ := bd_u hF
    refine bz_callV (rest := []) (st1 := [.int r41]) C h (As := []) (o := some (.int r41)) (τ := σ42) (c_X3_sumOfDraws (l := l) k40 (res := (r41, σ42)) qr41) k40 (by decide) (ci := 3) rfl (cwV 0 hts (bz_gV wd_35_10 wd_35_11 wd_35_12 wd_1_14 wd_35_13) rfl rfl rfl (by decide +kernel) ⟨Nat.le_of_ble_eq_true rfl, Nat.le_of_ble_eq_true rfl⟩) rfl hl.1 rfl (by decide) ⟨Nat.zero_le _, Nat.zero_le _⟩ dX6_count_191 rfl (fun H locs h => ?_)
    exact bz_iret C h hlocks hr hF dX6_count_194
  have hF := it_f hF c39
  by_cases c43 : x1_ = 15
  · have hF := it_t hF c43
    refine lv_tableIn (tgt := 195) hx hb dX6_count_1 (by rw [c43]; decide) (by rw [c43]; decide) (by rw [c43]; rfl) (by decide) ?_
    refine lv_aload_n hx hb dX6_count_195 rfl (lv_at hl 0 rfl) ?_
    refine gf_6_0 C h ka0 iz_X6 (List.mem_cons_of_mem _ wd_1_15) dX6_count_196 (fun k44 => ?_)
    refine gf_3_2 C h k44 iz_X3 (List.mem_cons_of_mem _ wd_32_2) dX6_count_199 (fun k45 => ?_)
    refine gf_0_3 C h k45 iz_X0 (List.mem_cons_of_mem _ wd_34_19) dX6_count_202 ?_
    exact bz_iret C h hlocks hr hF dX6_count_205
  have hF := it_f hF c43
  by_cases c46 : x1_ = 16
  · have hF := it_t hF c46
    refine lv_tableIn (tgt := 206) hx hb dX6_count_1 (by rw [c46]; decide) (by rw [c46]; decide) (by rw [c46]; rfl) (by decide) ?_
    refine lv_aload_n hx hb dX6_count_206 rfl (lv_at hl 0 rfl) ?_
    refine gf_6_1 C h ka0 iz_X6 (List.mem_cons_of_mem _ wd_1_19) dX6_count_207 (fun k47 => ?_)
    refine gf_1_1 C h k47 iz_X1 (List.mem_cons_of_mem _ wd_29_0) dX6_count_210 ?_
    exact bz_iret C h hlocks hr hF dX6_count_213
  have hF := it_f hF c46
  by_cases c48 : x1_ = 17
  · have hF := it_t hF c48
    refine lv_tableIn (tgt := 214) hx hb dX6_count_1 (by rw [c48]; decide) (by rw [c48]; decide) (by rw [c48]; rfl) (by decide) ?_
    refine lv_aload_n hx hb dX6_count_214 rfl (lv_at hl 0 rfl) ?_
    refine gf_6_4 C h ka0 iz_X6 (List.mem_cons_of_mem _ wd_2_0) dX6_count_215 (fun k49 => ?_)
    refine gf_5_1 C h k49 iz_X5 (List.mem_cons_of_mem _ wd_22_3) dX6_count_218 ?_
    exact bz_iret C h hlocks hr hF dX6_count_221
  have hF := it_f hF c48
  refine lv_tableOut (tgt := 222) hx hb dX6_count_1 (bz_out18 c6 c8 c9 c10 c11 c12 c14 c16 c19 c20 c25 c27 c31 c35 c39 c43 c46 c48) (by decide) ?_
  refine lv_bipush (v := (-2)) hx hb dX6_count_222 (by decide) ?_
  exact bz_iret C h hlocks hr hF dX6_count_224
set_option maxHeartbeats 4000000 in
set_option maxRecDepth 100000 in
theorem c_X7_in {l : Launch} {G : bz_G} {σ : bz_W} {x0_ : Int32} {x1_ : Int32} {x2_ : Int32}  {res : Int32 × bz_W} (hF : f_X7_in σ x0_ x1_ x2_ = some res) : bz_M l yX7_in wz_X7_in 0 0 G σ [.int x0_, .int x1_, .int x2_] (some (.int res.1)) res.2 := by
  refine bz_mk (cc := cX7_in) (maxL := 3) (ret := (some .boolean)) (own := RX7) (by decide) rfl rfl (Nat.le_of_ble_eq_true rfl) ?_
  intro p e s m args below meth c ls C hlocks hr h hl
  have hx := C.1
  have hb := C.2.1
  have hts := C.2.2.2.2.1
  have hl : lv_has ls 3 [(0, .int x0_), (1, .int x1_), (2, .int x2_)] := hl
  obtain ⟨H, eH⟩ : ∃ y, y = s.heap := ⟨_, rfl⟩
  obtain ⟨locs, el⟩ : ∃ y : List Loc, y = [] := ⟨_, rfl⟩
  rw [← el, ← eH] at h ⊢
  unfold f_X7_in at hF
  refine lv_iload_n hx hb dX7_in_0 rfl (lv_at hl 0 rfl) ?_
  refine lv_iload_n hx hb dX7_in_1 rfl (lv_at hl 1 rfl) ?_
  refine lv_icmp_lt (tgt := 14) hx hb dX7_in_2 (by decide) (fun c1 => ?_) (fun c1 => ?_)
  · have hF := it_t hF c1
    refine lv_iconst (v := 0) hx hb dX7_in_14 (by decide) ?_
    exact bz_zret C h hlocks hr (by decide) hF dX7_in_15
  · have hF := it_f hF c1
    refine lv_iload_n hx hb dX7_in_5 rfl (lv_at hl 0 rfl) ?_
    refine lv_iload_n hx hb dX7_in_6 rfl (lv_at hl 2 rfl) ?_
    refine lv_icmp_gt (tgt := 14) hx hb dX7_in_7 (by decide) (fun c2 => ?_) (fun c2 => ?_)
    · have hF := it_t hF c2
      refine lv_iconst (v := 0) hx hb dX7_in_14 (by decide) ?_
      exact bz_zret C h hlocks hr (by decide) hF dX7_in_15
    · have hF := it_f hF c2
      refine lv_iconst (v := 1) hx hb dX7_in_10 (by decide) ?_
      refine lv_goto (tgt := 15) hx hb dX7_in_11 (by decide) ?_
      exact bz_zret C h hlocks hr (by decide) hF dX7_in_15
set_option maxHeartbeats 4000000 in
set_option maxRecDepth 100000 in
theorem L_X7_record_L51 {p : Program} {l : Launch} {e : Env} {s : State} {m : MethodId} {args : Array Value} {below : List Frame} {meth : Method} {c : Code} {G : bz_G} (C : bz_C p s m c args cX7_record 2 RX7 wz_X7_record G) (hlocks : meth.locks = false) (hr : meth.sig.returnType = none) {a0 : Nat} (ka0 : bz_k G a0 = (8, 0)) {k : bz_W → Option (Int32 × bz_W)} {res : Int32 × bz_W} : ∀ (n : Nat) (v1 : Int32) (σ : bz_W) (H : Heap) (locs : List Loc) (ls : Array Slot), f_X7_record_L51 a0 k n v1 σ = some res → bz_H G s σ H locs → lv_has ls 2 [(0, .ref a0), (1, .int v1)] → (∀ (σ : bz_W) (H : Heap) (locs : List Loc) (ls : Array Slot), k σ = some res → bz_H G s σ H locs → lv_has ls 2 [(0, .ref a0)] → W p l e ({ frames := 0, cells := 0, slots := 0, locals := 0 } : Room) s m args below meth c H locs 0 0 (MQ below (bz_Qc G none res.2) args s 0 0 (bz_A G)) (F0 m 85 ls [])) → W p l e ({ frames := 0, cells := 0, slots := 0, locals := 0 } : Room) s m args below meth c H locs 0 0 (MQ below (bz_Qc G none res.2) args s 0 0 (bz_A G)) (F0 m 51 ls []) := by
  have hx := C.1
  have hb := C.2.1
  have hts := C.2.2.2.2.1
  intro n
  induction n with
  | zero =>
    intro v1 σ H locs ls hF
    exact absurd hF (by simp [f_X7_record_L51])
  | succ n ih =>
    intro v1 σ H locs ls hF h hl hk
    rw [f_X7_record_L51] at hF
    refine lv_iload_n hx hb dX7_record_51 rfl (lv_at hl 1 rfl) ?_
    refine lv_sipush (v := 246) hx hb dX7_record_52 (by decide) ?_
    refine lv_icmp_ge (tgt := 85) hx hb dX7_record_55 (by decide) (fun c3 => ?_) (fun c3 => ?_)
    · have hF := it_t hF c3
      exact hk _ H locs ls hF h (lv_sub hl [0] rfl)
    · have hF := it_f hF c3
      refine lv_aload_n hx hb dX7_record_58 rfl (lv_at hl 0 rfl) ?_
      refine gf_7_1 C h ka0 iz_X7 (List.mem_cons_of_mem _ wd_4_14) dX7_record_59 (fun k4 => ?_)
      refine lv_sipush (v := 246) hx hb dX7_record_62 (by decide) ?_
      refine lv_aload_n hx hb dX7_record_65 rfl (lv_at hl 0 rfl) ?_
      refine gf_7_2 C h ka0 iz_X7 (List.mem_cons_of_mem _ wd_8_17) dX7_record_66 ?_
      refine lv_imul hx hb dX7_record_69 ?_
      refine lv_iload_n hx hb dX7_record_70 rfl (lv_at hl 1 rfl) ?_
      refine lv_iadd hx hb dX7_record_71 ?_
      refine lv_aload_n hx hb dX7_record_72 rfl (lv_at hl 0 rfl) ?_
      refine gf_7_0 C h ka0 iz_X7 (List.mem_cons_of_mem _ wd_4_13) dX7_record_73 (fun k5 => ?_)
      refine lv_iload_n hx hb dX7_record_76 rfl (lv_at hl 1 rfl) ?_
      obtain ⟨c6, hF⟩ := ck_u hF
      refine bz_iald C h k5 c6 (kx := v1.toNatClampNeg) rfl dX7_record_77 ?_
      obtain ⟨c7, hF⟩ := ck_u hF
      refine bz_iast C h k4 c7 (kx := (((246 * (σ.1 a0 2)) + v1) : Int32).toNatClampNeg) rfl dX7_record_78 (fun H locs h => ?_)
      obtain ⟨σ8, eσ8⟩ : ∃ y : bz_W, y = bz_wi σ (σ.2 a0 1) (((246 * (σ.1 a0 2)) + v1) : Int32).toNatClampNeg (σ.1 (σ.2 a0 0) v1.toNatClampNeg) := ⟨_, rfl⟩
      rw [← eσ8] at h
      have hF := lt_u hF σ8 eσ8
      obtain ⟨x9, ex9⟩ : ∃ y : Int32, y = v1 + 1 := ⟨_, rfl⟩
      have hF := lt_u hF x9 ex9
      refine lv_iinc (v := x9) (lv' := [(1, .int x9), (0, .ref a0)]) hx hb dX7_record_79 hl (k := 1) rfl (by rw [ex9]; rfl) (by decide) rfl (fun ls hl => ?_)
      refine lv_goto (tgt := 51) hx hb dX7_record_82 (by decide) ?_
      exact ih _ _ H locs ls hF h (lv_sub hl [1, 0] rfl) hk
set_option maxHeartbeats 4000000 in
set_option maxRecDepth 100000 in
theorem L_X7_record_L10 {p : Program} {l : Launch} {e : Env} {s : State} {m : MethodId} {args : Array Value} {below : List Frame} {meth : Method} {c : Code} {G : bz_G} (C : bz_C p s m c args cX7_record 2 RX7 wz_X7_record G) (hlocks : meth.locks = false) (hr : meth.sig.returnType = none) {a0 : Nat} (ka0 : bz_k G a0 = (8, 0)) {k : bz_W → Option (Int32 × bz_W)} {res : Int32 × bz_W} : ∀ (n : Nat) (v1 : Int32) (σ : bz_W) (H : Heap) (locs : List Loc) (ls : Array Slot), f_X7_record_L10 a0 k n v1 σ = some res → bz_H G s σ H locs → lv_has ls 2 [(0, .ref a0), (1, .int v1)] → (∀ (σ : bz_W) (H : Heap) (locs : List Loc) (ls : Array Slot), k σ = some res → bz_H G s σ H locs → lv_has ls 2 [(0, .ref a0)] → W p l e ({ frames := 0, cells := 0, slots := 0, locals := 0 } : Room) s m args below meth c H locs 0 0 (MQ below (bz_Qc G none res.2) args s 0 0 (bz_A G)) (F0 m 39 ls [])) → W p l e ({ frames := 0, cells := 0, slots := 0, locals := 0 } : Room) s m args below meth c H locs 0 0 (MQ below (bz_Qc G none res.2) args s 0 0 (bz_A G)) (F0 m 10 ls []) := by
  have hx := C.1
  have hb := C.2.1
  have hts := C.2.2.2.2.1
  intro n
  induction n with
  | zero =>
    intro v1 σ H locs ls hF
    exact absurd hF (by simp [f_X7_record_L10])
  | succ n ih =>
    intro v1 σ H locs ls hF h hl hk
    rw [f_X7_record_L10] at hF
    refine lv_iload_n hx hb dX7_record_10 rfl (lv_at hl 1 rfl) ?_
    refine lv_sipush (v := 738) hx hb dX7_record_11 (by decide) ?_
    refine lv_icmp_ge (tgt := 39) hx hb dX7_record_14 (by decide) (fun c13 => ?_) (fun c13 => ?_)
    · have hF := it_t hF c13
      exact hk _ H locs ls hF h (lv_sub hl [0] rfl)
    · have hF := it_f hF c13
      refine lv_aload_n hx hb dX7_record_17 rfl (lv_at hl 0 rfl) ?_
      refine gf_7_1 C h ka0 iz_X7 (List.mem_cons_of_mem _ wd_4_14) dX7_record_18 (fun k14 => ?_)
      refine lv_iload_n hx hb dX7_record_21 rfl (lv_at hl 1 rfl) ?_
      refine lv_aload_n hx hb dX7_record_22 rfl (lv_at hl 0 rfl) ?_
      refine gf_7_1 C h ka0 iz_X7 (List.mem_cons_of_mem _ wd_4_14) dX7_record_23 (fun k15 => ?_)
      refine lv_iload_n hx hb dX7_record_26 rfl (lv_at hl 1 rfl) ?_
      refine lv_sipush (v := 246) hx hb dX7_record_27 (by decide) ?_
      refine lv_iadd hx hb dX7_record_30 ?_
      obtain ⟨c16, hF⟩ := ck_u hF
      refine bz_iald C h k15 c16 (kx := ((v1 + 246) : Int32).toNatClampNeg) rfl dX7_record_31 ?_
      obtain ⟨c17, hF⟩ := ck_u hF
      refine bz_iast C h k14 c17 (kx := v1.toNatClampNeg) rfl dX7_record_32 (fun H locs h => ?_)
      obtain ⟨σ18, eσ18⟩ : ∃ y : bz_W, y = bz_wi σ (σ.2 a0 1) v1.toNatClampNeg (σ.1 (σ.2 a0 1) ((v1 + 246) : Int32).toNatClampNeg) := ⟨_, rfl⟩
      rw [← eσ18] at h
      have hF := lt_u hF σ18 eσ18
      obtain ⟨x19, ex19⟩ : ∃ y : Int32, y = v1 + 1 := ⟨_, rfl⟩
      have hF := lt_u hF x19 ex19
      refine lv_iinc (v := x19) (lv' := [(1, .int x19), (0, .ref a0)]) hx hb dX7_record_33 hl (k := 1) rfl (by rw [ex19]; rfl) (by decide) rfl (fun ls hl => ?_)
      refine lv_goto (tgt := 10) hx hb dX7_record_36 (by decide) ?_
      exact ih _ _ H locs ls hF h (lv_sub hl [1, 0] rfl) hk
set_option maxHeartbeats 4000000 in
set_option maxRecDepth 100000 in
theorem c_X7_record {l : Launch} {G : bz_G} {σ : bz_W} {a0 : Nat} (ka0 : bz_k G a0 = (8, 0)) {res : Int32 × bz_W} (hF : f_X7_record σ a0 = some res) : bz_M l yX7_record wz_X7_record 0 0 G σ [.ref a0] none res.2 := by
  refine bz_mk (cc := cX7_record) (maxL := 2) (ret := none) (own := RX7) (by decide) rfl rfl (Nat.le_of_ble_eq_true rfl) ?_
  intro p e s m args below meth c ls C hlocks hr h hl
  have hx := C.1
  have hb := C.2.1
  have hts := C.2.2.2.2.1
  have hl : lv_has ls 2 [(0, .ref a0)] := hl
  obtain ⟨H, eH⟩ : ∃ y, y = s.heap := ⟨_, rfl⟩
  obtain ⟨locs, el⟩ : ∃ y : List Loc, y = [] := ⟨_, rfl⟩
  rw [← el, ← eH] at h ⊢
  unfold f_X7_record at hF
  refine lv_aload_n hx hb dX7_record_0 rfl (lv_at hl 0 rfl) ?_
  refine gf_7_2 C h ka0 iz_X7 (List.mem_cons_of_mem _ wd_8_17) dX7_record_1 ?_
  refine lv_iconst (v := 4) hx hb dX7_record_4 (by decide) ?_
  obtain ⟨j2, ej2, hF⟩ := lt_j hF
  have hj2 : ∀ (σ1 : bz_W) (H : Heap) (locs : List Loc) (ls : Array Slot), j2 σ1 = some res → bz_H G s σ1 H locs → lv_has ls 2 [(0, .ref a0)] → W p l e ({ frames := 0, cells := 0, slots := 0, locals := 0 } : Room) s m args below meth c H locs 0 0 (MQ below (bz_Qc G none res.2) args s 0 0 (bz_A G)) (F0 m 49 ls []) := by
      intro σ1 H locs ls hF h hl
      subst ej2
      refine lv_iconst (v := 0) hx hb dX7_record_49 (by decide) ?_
      refine lv_istore_n (lv' := [(1, .int 0), (0, .ref a0)]) hx hb dX7_record_50 rfl hl (by decide) rfl (fun ls hl => ?_)
      refine L_X7_record_L51 C hlocks hr ka0 _ _ _ H locs ls hF h (lv_sub hl [1, 0] rfl) ?_
      intro σ10 H locs ls hF h hl
      refine lv_aload_n hx hb dX7_record_85 rfl (lv_at hl 0 rfl) ?_
      refine lv_dup hx hb dX7_record_86 rfl ?_
      refine gf_7_2 C h ka0 iz_X7 (List.mem_cons_of_mem _ wd_8_17) dX7_record_87 ?_
      refine lv_iconst (v := 1) hx hb dX7_record_90 (by decide) ?_
      refine lv_iadd hx hb dX7_record_91 ?_
      refine pf_7_2 C h ka0 iz_X7 (List.mem_cons_of_mem _ wd_8_17) dX7_record_92 (fun H locs h => ?_)
      obtain ⟨σ11, eσ11⟩ : ∃ y : bz_W, y = bz_wi σ10 a0 2 ((σ10.1 a0 2) + 1) := ⟨_, rfl⟩
      rw [← eσ11] at h
      have hF := lt_u hF σ11 eσ11
      exact bz_vret C h hlocks hr hF dX7_record_95
  refine lv_icmp_ne (tgt := 49) hx hb dX7_record_5 (by decide) (fun c12 => ?_) (fun c12 => ?_)
  · have hF := it_f hF c12
    exact hj2 _ H locs ls hF h (lv_sub hl [0] rfl)
  · have hF := it_t hF c12
    refine lv_iconst (v := 0) hx hb dX7_record_8 (by decide) ?_
    refine lv_istore_n (lv' := [(1, .int 0), (0, .ref a0)]) hx hb dX7_record_9 rfl hl (by decide) rfl (fun ls hl => ?_)
    refine L_X7_record_L10 C hlocks hr ka0 _ _ _ H locs ls hF h (lv_sub hl [1, 0] rfl) ?_
    intro σ20 H locs ls hF h hl
    refine lv_aload_n hx hb dX7_record_39 rfl (lv_at hl 0 rfl) ?_
    refine lv_dup hx hb dX7_record_40 rfl ?_
    refine gf_7_2 C h ka0 iz_X7 (List.mem_cons_of_mem _ wd_8_17) dX7_record_41 ?_
    refine lv_iconst (v := 1) hx hb dX7_record_44 (by decide) ?_
    refine lv_isub hx hb dX7_record_45 ?_
    refine pf_7_2 C h ka0 iz_X7 (List.mem_cons_of_mem _ wd_8_17) dX7_record_46 (fun H locs h => ?_)
    obtain ⟨σ21, eσ21⟩ : ∃ y : bz_W, y = bz_wi σ20 a0 2 ((σ20.1 a0 2) - 1) := ⟨_, rfl⟩
    rw [← eσ21] at h
    have hF := lt_u hF σ21 eσ21
    exact hj2 _ H locs ls hF h (lv_sub hl [0] rfl)
set_option maxHeartbeats 4000000 in
set_option maxRecDepth 100000 in
theorem c_X7_refuse {l : Launch} {G : bz_G} {σ : bz_W} {a0 : Nat} {x1_ : Int32} (ka0 : bz_k G a0 = (8, 0)) {res : Int32 × bz_W} (hF : f_X7_refuse σ a0 x1_ = some res) : bz_M l yX7_refuse wz_X7_refuse 0 0 G σ [.ref a0, .int x1_] (some (.int res.1)) res.2 := by
  refine bz_mk (cc := cX7_refuse) (maxL := 2) (ret := (some .int)) (own := RX7) (by decide) rfl rfl (Nat.le_of_ble_eq_true rfl) ?_
  intro p e s m args below meth c ls C hlocks hr h hl
  have hx := C.1
  have hb := C.2.1
  have hts := C.2.2.2.2.1
  have hl : lv_has ls 2 [(0, .ref a0), (1, .int x1_)] := hl
  obtain ⟨H, eH⟩ : ∃ y, y = s.heap := ⟨_, rfl⟩
  obtain ⟨locs, el⟩ : ∃ y : List Loc, y = [] := ⟨_, rfl⟩
  rw [← el, ← eH] at h ⊢
  unfold f_X7_refuse at hF
  refine lv_aload_n hx hb dX7_refuse_0 rfl (lv_at hl 0 rfl) ?_
  refine lv_iload_n hx hb dX7_refuse_1 rfl (lv_at hl 1 rfl) ?_
  refine pf_7_5 C h ka0 iz_X7 (List.mem_cons_of_mem _ wd_8_12) dX7_refuse_2 (fun H locs h => ?_)
  obtain ⟨σ1, eσ1⟩ : ∃ y : bz_W, y = bz_wi σ a0 5 x1_ := ⟨_, rfl⟩
  rw [← eσ1] at h
  have hF := lt_u hF σ1 eσ1
  refine lv_bipush (v := (-3)) hx hb dX7_refuse_5 (by decide) ?_
  exact bz_iret C h hlocks hr hF dX7_refuse_7
set_option maxHeartbeats 4000000 in
set_option maxRecDepth 100000 in
theorem c_X7_noMotor {l : Launch} {G : bz_G} {σ : bz_W} {a0 : Nat} {x1_ : Int32} (ka0 : bz_k G a0 = (8, 0)) {res : Int32 × bz_W} (hF : f_X7_noMotor σ a0 x1_ = some res) : bz_M l yX7_noMotor wz_X7_noMotor 1 22 G σ [.ref a0, .int x1_] (some (.int res.1)) res.2 := by
  refine bz_mk (cc := cX7_noMotor) (maxL := 2) (ret := (some .boolean)) (own := RX7) (by decide) rfl rfl (Nat.le_of_ble_eq_true rfl) ?_
  intro p e s m args below meth c ls C hlocks hr h hl
  have hx := C.1
  have hb := C.2.1
  have hts := C.2.2.2.2.1
  have hl : lv_has ls 2 [(0, .ref a0), (1, .int x1_)] := hl
  obtain ⟨H, eH⟩ : ∃ y, y = s.heap := ⟨_, rfl⟩
  obtain ⟨locs, el⟩ : ∃ y : List Loc, y = [] := ⟨_, rfl⟩
  rw [← el, ← eH] at h ⊢
  unfold f_X7_noMotor at hF
  refine lv_iload_n hx hb dX7_noMotor_0 rfl (lv_at hl 1 rfl) ?_
  refine lv_iconst (v := 0) hx hb dX7_noMotor_1 (by decide) ?_
  refine lv_aload_n hx hb dX7_noMotor_2 rfl (lv_at hl 0 rfl) ?_
  refine gf_7_0 C h ka0 iz_X7 (List.mem_cons_of_mem _ wd_4_13) dX7_noMotor_3 (fun k1 => ?_)
  refine lv_iconst (v := 0) hx hb dX7_noMotor_6 (by decide) ?_
  refine bz_iald C h k1 (by decide) (kx := 0) (bz_cl 0 (by decide)) dX7_noMotor_7 ?_
  refine lv_iconst (v := 1) hx hb dX7_noMotor_8 (by decide) ?_
  refine lv_isub hx hb dX7_noMotor_9 ?_
  obtain ⟨r2, σ3, qr2, hF⟩ := bd_u hF
  refine bz_callS (rest := []) (st1 := [.int r2]) C h (As := [.int x1_, .int 0, .int ((σ.1 (σ.2 a0 0) 0) - 1)]) (o := some (.int r2)) (τ := σ3) (c_X7_in (l := l)  (res := (r2, σ3)) qr2) (va_cwS 3 hts (bz_gS wd_8_5 wd_8_6 wd_1_5 wd_8_7) rfl rfl rfl (by decide +kernel) ⟨Nat.le_of_ble_eq_true rfl, Nat.le_of_ble_eq_true rfl⟩) rfl hl.1 rfl (by decide) ⟨Nat.zero_le _, Nat.zero_le _⟩ dX7_noMotor_10 rfl (fun H locs h => ?_)
  refine lv_if_ne (tgt := 20) hx hb dX7_noMotor_13 (by decide) (fun c4 => ?_) (fun c4 => ?_)
  · have hF := it_f hF c4
    refine lv_iconst (v := 0) hx hb dX7_noMotor_20 (by decide) ?_
    exact bz_zret C h hlocks hr (by decide) hF dX7_noMotor_21
  · have hF := it_t hF c4
    refine lv_iconst (v := 1) hx hb dX7_noMotor_16 (by decide) ?_
    refine lv_goto (tgt := 21) hx hb dX7_noMotor_17 (by decide) ?_
    exact bz_zret C h hlocks hr (by decide) hF dX7_noMotor_21
set_option maxHeartbeats 4000000 in
set_option maxRecDepth 100000 in
theorem c_X7_of {l : Launch} {G : bz_G} {σ : bz_W} {a0 : Nat} {x1_ : Int32} {x2_ : Int32} (ka0 : bz_k G a0 = (8, 0)) {res : Int32 × bz_W} (hF : f_X7_of σ a0 x1_ x2_ = some res) : bz_M l yX7_of wz_X7_of 0 0 G σ [.ref a0, .int x1_, .int x2_] (some (.int res.1)) res.2 := by
  refine bz_mk (cc := cX7_of) (maxL := 3) (ret := (some .int)) (own := RX7) (by decide) rfl rfl (Nat.le_of_ble_eq_true rfl) ?_
  intro p e s m args below meth c ls C hlocks hr h hl
  have hx := C.1
  have hb := C.2.1
  have hts := C.2.2.2.2.1
  have hl : lv_has ls 3 [(0, .ref a0), (1, .int x1_), (2, .int x2_)] := hl
  obtain ⟨H, eH⟩ : ∃ y, y = s.heap := ⟨_, rfl⟩
  obtain ⟨locs, el⟩ : ∃ y : List Loc, y = [] := ⟨_, rfl⟩
  rw [← el, ← eH] at h ⊢
  unfold f_X7_of at hF
  refine lv_aload_n hx hb dX7_of_0 rfl (lv_at hl 0 rfl) ?_
  refine gf_7_0 C h ka0 iz_X7 (List.mem_cons_of_mem _ wd_4_13) dX7_of_1 (fun k1 => ?_)
  refine lv_bipush (v := 8) hx hb dX7_of_4 (by decide) ?_
  refine lv_bipush (v := 20) hx hb dX7_of_6 (by decide) ?_
  refine lv_iload_n hx hb dX7_of_8 rfl (lv_at hl 1 rfl) ?_
  refine lv_imul hx hb dX7_of_9 ?_
  refine lv_iadd hx hb dX7_of_10 ?_
  refine lv_iload_n hx hb dX7_of_11 rfl (lv_at hl 2 rfl) ?_
  refine lv_iadd hx hb dX7_of_12 ?_
  obtain ⟨c2, hF⟩ := ck_u hF
  refine bz_iald C h k1 c2 (kx := (((8 + (20 * x1_)) + x2_) : Int32).toNatClampNeg) rfl dX7_of_13 ?_
  exact bz_iret C h hlocks hr hF dX7_of_14
set_option maxHeartbeats 4000000 in
set_option maxRecDepth 100000 in
theorem c_X7_put {l : Launch} {G : bz_G} {σ : bz_W} {a0 : Nat} {x1_ : Int32} {x2_ : Int32} {x3_ : Int32} (ka0 : bz_k G a0 = (8, 0)) {res : Int32 × bz_W} (hF : f_X7_put σ a0 x1_ x2_ x3_ = some res) : bz_M l yX7_put wz_X7_put 0 0 G σ [.ref a0, .int x1_, .int x2_, .int x3_] none res.2 := by
  refine bz_mk (cc := cX7_put) (maxL := 4) (ret := none) (own := RX7) (by decide) rfl rfl (Nat.le_of_ble_eq_true rfl) ?_
  intro p e s m args below meth c ls C hlocks hr h hl
  have hx := C.1
  have hb := C.2.1
  have hts := C.2.2.2.2.1
  have hl : lv_has ls 4 [(0, .ref a0), (1, .int x1_), (2, .int x2_), (3, .int x3_)] := hl
  obtain ⟨H, eH⟩ : ∃ y, y = s.heap := ⟨_, rfl⟩
  obtain ⟨locs, el⟩ : ∃ y : List Loc, y = [] := ⟨_, rfl⟩
  rw [← el, ← eH] at h ⊢
  unfold f_X7_put at hF
  refine lv_aload_n hx hb dX7_put_0 rfl (lv_at hl 0 rfl) ?_
  refine gf_7_0 C h ka0 iz_X7 (List.mem_cons_of_mem _ wd_4_13) dX7_put_1 (fun k1 => ?_)
  refine lv_bipush (v := 8) hx hb dX7_put_4 (by decide) ?_
  refine lv_bipush (v := 20) hx hb dX7_put_6 (by decide) ?_
  refine lv_iload_n hx hb dX7_put_8 rfl (lv_at hl 1 rfl) ?_
  refine lv_imul hx hb dX7_put_9 ?_
  refine lv_iadd hx hb dX7_put_10 ?_
  refine lv_iload_n hx hb dX7_put_11 rfl (lv_at hl 2 rfl) ?_
  refine lv_iadd hx hb dX7_put_12 ?_
  refine lv_iload_n hx hb dX7_put_13 rfl (lv_at hl 3 rfl) ?_
  obtain ⟨c2, hF⟩ := ck_u hF
  refine bz_iast C h k1 c2 (kx := (((8 + (20 * x1_)) + x2_) : Int32).toNatClampNeg) rfl dX7_put_14 (fun H locs h => ?_)
  obtain ⟨σ3, eσ3⟩ : ∃ y : bz_W, y = bz_wi σ (σ.2 a0 0) (((8 + (20 * x1_)) + x2_) : Int32).toNatClampNeg x3_ := ⟨_, rfl⟩
  rw [← eσ3] at h
  have hF := lt_u hF σ3 eσ3
  exact bz_vret C h hlocks hr hF dX7_put_15
set_option maxHeartbeats 4000000 in
set_option maxRecDepth 100000 in
theorem c_X7_more {l : Launch} {G : bz_G} {σ : bz_W} {a0 : Nat} {x1_ : Int32} {x2_ : Int32} {x3_ : Int32} (ka0 : bz_k G a0 = (8, 0)) {res : Int32 × bz_W} (hF : f_X7_more σ a0 x1_ x2_ x3_ = some res) : bz_M l yX7_more wz_X7_more 0 0 G σ [.ref a0, .int x1_, .int x2_, .int x3_] none res.2 := by
  refine bz_mk (cc := cX7_more) (maxL := 4) (ret := none) (own := RX7) (by decide) rfl rfl (Nat.le_of_ble_eq_true rfl) ?_
  intro p e s m args below meth c ls C hlocks hr h hl
  have hx := C.1
  have hb := C.2.1
  have hts := C.2.2.2.2.1
  have hl : lv_has ls 4 [(0, .ref a0), (1, .int x1_), (2, .int x2_), (3, .int x3_)] := hl
  obtain ⟨H, eH⟩ : ∃ y, y = s.heap := ⟨_, rfl⟩
  obtain ⟨locs, el⟩ : ∃ y : List Loc, y = [] := ⟨_, rfl⟩
  rw [← el, ← eH] at h ⊢
  unfold f_X7_more at hF
  refine lv_aload_n hx hb dX7_more_0 rfl (lv_at hl 0 rfl) ?_
  refine gf_7_0 C h ka0 iz_X7 (List.mem_cons_of_mem _ wd_4_13) dX7_more_1 (fun k1 => ?_)
  refine lv_bipush (v := 8) hx hb dX7_more_4 (by decide) ?_
  refine lv_bipush (v := 20) hx hb dX7_more_6 (by decide) ?_
  refine lv_iload_n hx hb dX7_more_8 rfl (lv_at hl 1 rfl) ?_
  refine lv_imul hx hb dX7_more_9 ?_
  refine lv_iadd hx hb dX7_more_10 ?_
  refine lv_iload_n hx hb dX7_more_11 rfl (lv_at hl 2 rfl) ?_
  refine lv_iadd hx hb dX7_more_12 ?_
  refine lv_topi (fun x2 ex2 => ?_)
  have hF := lt_u hF x2 ex2
  refine lv_dup2_11 hx hb dX7_more_13 rfl rfl ?_
  obtain ⟨c3, hF⟩ := ck_u hF
  refine bz_iald C h k1 c3 (kx := x2.toNatClampNeg) rfl dX7_more_14 ?_
  refine lv_iload_n hx hb dX7_more_15 rfl (lv_at hl 3 rfl) ?_
  refine lv_iadd hx hb dX7_more_16 ?_
  obtain ⟨c4, hF⟩ := ck_u hF
  refine bz_iast C h k1 c4 (kx := x2.toNatClampNeg) rfl dX7_more_17 (fun H locs h => ?_)
  obtain ⟨σ5, eσ5⟩ : ∃ y : bz_W, y = bz_wi σ (σ.2 a0 0) x2.toNatClampNeg ((σ.1 (σ.2 a0 0) x2.toNatClampNeg) + x3_) := ⟨_, rfl⟩
  rw [← eσ5] at h
  have hF := lt_u hF σ5 eσ5
  exact bz_vret C h hlocks hr hF dX7_more_18
set_option maxHeartbeats 4000000 in
set_option maxRecDepth 100000 in
theorem L_X7_addMotor_L87 {p : Program} {l : Launch} {e : Env} {s : State} {m : MethodId} {args : Array Value} {below : List Frame} {meth : Method} {c : Code} {G : bz_G} (C : bz_C p s m c args cX7_addMotor 7 RX7 wz_X7_addMotor G) (hlocks : meth.locks = false) (hr : meth.sig.returnType = (some .int)) {a0 : Nat} {a1 : Int32} {a2 : Int32} {a3 : Int32} {a4 : Int32} {a5 : Int32} (ka0 : bz_k G a0 = (8, 0)) {k : bz_W → Option (Int32 × bz_W)} {res : Int32 × bz_W} : ∀ (n : Nat) (v6 : Int32) (σ : bz_W) (H : Heap) (locs : List Loc) (ls : Array Slot), f_X7_addMotor_L87 a0 a1 a2 a3 a4 a5 k n v6 σ = some res → bz_H G s σ H locs → lv_has ls 7 [(0, .ref a0), (1, .int a1), (2, .int a2), (3, .int a3), (4, .int a4), (5, .int a5), (6, .int v6)] → (∀ (σ : bz_W) (H : Heap) (locs : List Loc) (ls : Array Slot), k σ = some res → bz_H G s σ H locs → lv_has ls 7 [(0, .ref a0), (1, .int a1), (2, .int a2), (3, .int a3), (4, .int a4), (5, .int a5)] → W p l e ({ frames := 1, cells := 0, slots := 0, locals := 23 } : Room) s m args below meth c H locs 0 0 (MQ below (bz_Qc G (some (.int res.1)) res.2) args s 0 0 (bz_A G)) (F0 m 109 ls [])) → W p l e ({ frames := 1, cells := 0, slots := 0, locals := 23 } : Room) s m args below meth c H locs 0 0 (MQ below (bz_Qc G (some (.int res.1)) res.2) args s 0 0 (bz_A G)) (F0 m 87 ls []) := by
  have hx := C.1
  have hb := C.2.1
  have hts := C.2.2.2.2.1
  intro n
  induction n with
  | zero =>
    intro v6 σ H locs ls hF
    exact absurd hF (by simp [f_X7_addMotor_L87])
  | succ n ih =>
    intro v6 σ H locs ls hF h hl hk
    rw [f_X7_addMotor_L87] at hF
    refine lv_iload hx hb dX7_addMotor_87 (lv_at hl 6 rfl) ?_
    refine lv_bipush (v := 20) hx hb dX7_addMotor_89 (by decide) ?_
    refine lv_icmp_ge (tgt := 109) hx hb dX7_addMotor_91 (by decide) (fun c21 => ?_) (fun c21 => ?_)
    · have hF := it_t hF c21
      exact hk _ H locs ls hF h (lv_sub hl [0, 1, 2, 3, 4, 5] rfl)
    · have hF := it_f hF c21
      refine lv_aload_n hx hb dX7_addMotor_94 rfl (lv_at hl 0 rfl) ?_
      refine lv_iload hx hb dX7_addMotor_95 (lv_at hl 5 rfl) ?_
      refine lv_iload hx hb dX7_addMotor_97 (lv_at hl 6 rfl) ?_
      refine lv_iconst (v := 0) hx hb dX7_addMotor_99 (by decide) ?_
      obtain ⟨r22, σ23, qr22, hF⟩ := bd_u hF
      refine bz_callV (rest := []) (st1 := []) C h (As := [.int a5, .int v6, .int 0]) (o := none) (τ := σ23) (c_X7_put (l := l) ka0 (res := (r22, σ23)) qr22) ka0 (by decide) (ci := 7) rfl (cwV 3 hts (bz_gV wd_8_18 wd_8_19 wd_8_20 wd_1_5 wd_8_21) rfl rfl rfl (by decide +kernel) ⟨Nat.le_of_ble_eq_true rfl, Nat.le_of_ble_eq_true rfl⟩) rfl hl.1 rfl (by decide) ⟨Nat.zero_le _, Nat.zero_le _⟩ dX7_addMotor_100 rfl (fun H locs h => ?_)
      obtain ⟨x24, ex24⟩ : ∃ y : Int32, y = v6 + 1 := ⟨_, rfl⟩
      have hF := lt_u hF x24 ex24
      refine lv_iinc (v := x24) (lv' := [(6, .int x24), (0, .ref a0), (1, .int a1), (2, .int a2), (3, .int a3), (4, .int a4), (5, .int a5)]) hx hb dX7_addMotor_103 hl (k := 6) rfl (by rw [ex24]; rfl) (by decide) rfl (fun ls hl => ?_)
      refine lv_goto (tgt := 87) hx hb dX7_addMotor_106 (by decide) ?_
      exact ih _ _ H locs ls hF h (lv_sub hl [1, 2, 3, 4, 5, 6, 0] rfl) hk
set_option maxHeartbeats 4000000 in
set_option maxRecDepth 100000 in
theorem c_X7_addMotor {l : Launch} {G : bz_G} {σ : bz_W} {a0 : Nat} {x1_ : Int32} {x2_ : Int32} {x3_ : Int32} {x4_ : Int32} (ka0 : bz_k G a0 = (8, 0)) {res : Int32 × bz_W} (hF : f_X7_addMotor σ a0 x1_ x2_ x3_ x4_ = some res) : bz_M l yX7_addMotor wz_X7_addMotor 1 23 G σ [.ref a0, .int x1_, .int x2_, .int x3_, .int x4_] (some (.int res.1)) res.2 := by
  refine bz_mk (cc := cX7_addMotor) (maxL := 7) (ret := (some .int)) (own := RX7) (by decide) rfl rfl (Nat.le_of_ble_eq_true rfl) ?_
  intro p e s m args below meth c ls C hlocks hr h hl
  have hx := C.1
  have hb := C.2.1
  have hts := C.2.2.2.2.1
  have hl : lv_has ls 7 [(0, .ref a0), (1, .int x1_), (2, .int x2_), (3, .int x3_), (4, .int x4_)] := hl
  obtain ⟨H, eH⟩ : ∃ y, y = s.heap := ⟨_, rfl⟩
  obtain ⟨locs, el⟩ : ∃ y : List Loc, y = [] := ⟨_, rfl⟩
  rw [← el, ← eH] at h ⊢
  unfold f_X7_addMotor at hF
  refine lv_iload_n hx hb dX7_addMotor_0 rfl (lv_at hl 1 rfl) ?_
  refine lv_iconst (v := 1) hx hb dX7_addMotor_1 (by decide) ?_
  refine lv_bipush (v := 100) hx hb dX7_addMotor_2 (by decide) ?_
  obtain ⟨r1, σ2, qr1, hF⟩ := bd_u hF
  refine bz_callS (rest := []) (st1 := [.int r1]) C h (As := [.int x1_, .int 1, .int 100]) (o := some (.int r1)) (τ := σ2) (c_X7_in (l := l)  (res := (r1, σ2)) qr1) (va_cwS 3 hts (bz_gS wd_8_5 wd_8_6 wd_1_5 wd_8_7) rfl rfl rfl (by decide +kernel) ⟨Nat.le_of_ble_eq_true rfl, Nat.le_of_ble_eq_true rfl⟩) rfl hl.1 rfl (by decide) ⟨Nat.zero_le _, Nat.zero_le _⟩ dX7_addMotor_4 rfl (fun H locs h => ?_)
  refine lv_if_eq (tgt := 42) hx hb dX7_addMotor_7 (by decide) (fun c3 => ?_) (fun c3 => ?_)
  · have hF := it_t hF c3
    refine lv_bipush (v := (-2)) hx hb dX7_addMotor_42 (by decide) ?_
    exact bz_iret C h hlocks hr hF dX7_addMotor_44
  · have hF := it_f hF c3
    refine lv_iload_n hx hb dX7_addMotor_10 rfl (lv_at hl 2 rfl) ?_
    refine lv_iconst (v := 2) hx hb dX7_addMotor_11 (by decide) ?_
    refine lv_bipush (v := 30) hx hb dX7_addMotor_12 (by decide) ?_
    obtain ⟨r4, σ5, qr4, hF⟩ := bd_u hF
    refine bz_callS (rest := []) (st1 := [.int r4]) C h (As := [.int x2_, .int 2, .int 30]) (o := some (.int r4)) (τ := σ5) (c_X7_in (l := l)  (res := (r4, σ5)) qr4) (va_cwS 3 hts (bz_gS wd_8_5 wd_8_6 wd_1_5 wd_8_7) rfl rfl rfl (by decide +kernel) ⟨Nat.le_of_ble_eq_true rfl, Nat.le_of_ble_eq_true rfl⟩) rfl hl.1 rfl (by decide) ⟨Nat.zero_le _, Nat.zero_le _⟩ dX7_addMotor_14 rfl (fun H locs h => ?_)
    refine lv_if_eq (tgt := 42) hx hb dX7_addMotor_17 (by decide) (fun c6 => ?_) (fun c6 => ?_)
    · have hF := it_t hF c6
      refine lv_bipush (v := (-2)) hx hb dX7_addMotor_42 (by decide) ?_
      exact bz_iret C h hlocks hr hF dX7_addMotor_44
    · have hF := it_f hF c6
      refine lv_iload_n hx hb dX7_addMotor_20 rfl (lv_at hl 3 rfl) ?_
      refine lv_iconst (v := 2) hx hb dX7_addMotor_21 (by decide) ?_
      refine lv_bipush (v := 6) hx hb dX7_addMotor_22 (by decide) ?_
      obtain ⟨r7, σ8, qr7, hF⟩ := bd_u hF
      refine bz_callS (rest := []) (st1 := [.int r7]) C h (As := [.int x3_, .int 2, .int 6]) (o := some (.int r7)) (τ := σ8) (c_X7_in (l := l)  (res := (r7, σ8)) qr7) (va_cwS 3 hts (bz_gS wd_8_5 wd_8_6 wd_1_5 wd_8_7) rfl rfl rfl (by decide +kernel) ⟨Nat.le_of_ble_eq_true rfl, Nat.le_of_ble_eq_true rfl⟩) rfl hl.1 rfl (by decide) ⟨Nat.zero_le _, Nat.zero_le _⟩ dX7_addMotor_24 rfl (fun H locs h => ?_)
      refine lv_if_eq (tgt := 42) hx hb dX7_addMotor_27 (by decide) (fun c9 => ?_) (fun c9 => ?_)
      · have hF := it_t hF c9
        refine lv_bipush (v := (-2)) hx hb dX7_addMotor_42 (by decide) ?_
        exact bz_iret C h hlocks hr hF dX7_addMotor_44
      · have hF := it_f hF c9
        refine lv_iload hx hb dX7_addMotor_30 (lv_at hl 4 rfl) ?_
        refine lv_bipush (v := 100) hx hb dX7_addMotor_32 (by decide) ?_
        refine lv_ldc (v := 60000) hx hb C.2.2.2.1 (hts _ (List.mem_cons_of_mem _ wd_8_4)) dX7_addMotor_34 ?_
        obtain ⟨r10, σ11, qr10, hF⟩ := bd_u hF
        refine bz_callS (rest := []) (st1 := [.int r10]) C h (As := [.int x4_, .int 100, .int 60000]) (o := some (.int r10)) (τ := σ11) (c_X7_in (l := l)  (res := (r10, σ11)) qr10) (va_cwS 3 hts (bz_gS wd_8_5 wd_8_6 wd_1_5 wd_8_7) rfl rfl rfl (by decide +kernel) ⟨Nat.le_of_ble_eq_true rfl, Nat.le_of_ble_eq_true rfl⟩) rfl hl.1 rfl (by decide) ⟨Nat.zero_le _, Nat.zero_le _⟩ dX7_addMotor_36 rfl (fun H locs h => ?_)
        refine lv_if_ne (tgt := 45) hx hb dX7_addMotor_39 (by decide) (fun c12 => ?_) (fun c12 => ?_)
        · have hF := it_f hF c12
          refine lv_aload_n hx hb dX7_addMotor_45 rfl (lv_at hl 0 rfl) ?_
          refine gf_7_0 C h ka0 iz_X7 (List.mem_cons_of_mem _ wd_4_13) dX7_addMotor_46 (fun k13 => ?_)
          refine lv_iconst (v := 0) hx hb dX7_addMotor_49 (by decide) ?_
          refine bz_iald C h k13 (by decide) (kx := 0) (bz_cl 0 (by decide)) dX7_addMotor_50 ?_
          refine lv_bipush (v := 8) hx hb dX7_addMotor_51 (by decide) ?_
          refine lv_icmp_ne (tgt := 62) hx hb dX7_addMotor_53 (by decide) (fun c14 => ?_) (fun c14 => ?_)
          · have hF := it_f hF c14
            refine lv_aload_n hx hb dX7_addMotor_62 rfl (lv_at hl 0 rfl) ?_
            obtain ⟨r15, σ16, qr15, hF⟩ := bd_u hF
            refine bz_callV (rest := []) (st1 := []) C h (As := []) (o := none) (τ := σ16) (c_X7_record (l := l) ka0 (res := (r15, σ16)) qr15) ka0 (by decide) (ci := 7) rfl (cwV 0 hts (bz_gV wd_8_13 wd_8_14 wd_8_15 wd_1_5 wd_8_16) rfl rfl rfl (by decide +kernel) ⟨Nat.le_of_ble_eq_true rfl, Nat.le_of_ble_eq_true rfl⟩) rfl hl.1 rfl (by decide) ⟨Nat.zero_le _, Nat.zero_le _⟩ dX7_addMotor_63 rfl (fun H locs h => ?_)
            refine lv_aload_n hx hb dX7_addMotor_66 rfl (lv_at hl 0 rfl) ?_
            refine gf_7_0 C h ka0 iz_X7 (List.mem_cons_of_mem _ wd_4_13) dX7_addMotor_67 (fun k17 => ?_)
            refine lv_iconst (v := 0) hx hb dX7_addMotor_70 (by decide) ?_
            refine bz_iald C h k17 (by decide) (kx := 0) (bz_cl 0 (by decide)) dX7_addMotor_71 ?_
            refine lv_topi (fun x18 ex18 => ?_)
            have hF := lt_u hF x18 ex18
            refine lv_istore (lv' := [(5, .int x18), (0, .ref a0), (1, .int x1_), (2, .int x2_), (3, .int x3_), (4, .int x4_)]) hx hb dX7_addMotor_72 hl (by decide) rfl (fun ls hl => ?_)
            refine lv_aload_n hx hb dX7_addMotor_74 rfl (lv_at hl 1 rfl) ?_
            refine gf_7_0 C h ka0 iz_X7 (List.mem_cons_of_mem _ wd_4_13) dX7_addMotor_75 (fun k19 => ?_)
            refine lv_iconst (v := 0) hx hb dX7_addMotor_78 (by decide) ?_
            refine lv_dup2_11 hx hb dX7_addMotor_79 rfl rfl ?_
            refine bz_iald C h k19 (by decide) (kx := 0) (bz_cl 0 (by decide)) dX7_addMotor_80 ?_
            refine lv_iconst (v := 1) hx hb dX7_addMotor_81 (by decide) ?_
            refine lv_iadd hx hb dX7_addMotor_82 ?_
            refine bz_iast C h k19 (by decide) (kx := 0) (bz_cl 0 (by decide)) dX7_addMotor_83 (fun H locs h => ?_)
            obtain ⟨σ20, eσ20⟩ : ∃ y : bz_W, y = bz_wi σ16 (σ16.2 a0 0) 0 ((σ16.1 (σ16.2 a0 0) 0) + 1) := ⟨_, rfl⟩
            rw [← eσ20] at h
            have hF := lt_u hF σ20 eσ20
            refine lv_iconst (v := 0) hx hb dX7_addMotor_84 (by decide) ?_
            refine lv_istore (lv' := [(6, .int 0), (5, .int x18), (0, .ref a0), (1, .int x1_), (2, .int x2_), (3, .int x3_), (4, .int x4_)]) hx hb dX7_addMotor_85 hl (by decide) rfl (fun ls hl => ?_)
            refine L_X7_addMotor_L87 C hlocks hr ka0 _ _ _ H locs ls hF h (lv_sub hl [2, 3, 4, 5, 6, 1, 0] rfl) ?_
            intro σ25 H locs ls hF h hl
            refine lv_aload_n hx hb dX7_addMotor_109 rfl (lv_at hl 0 rfl) ?_
            refine lv_iload hx hb dX7_addMotor_110 (lv_at hl 5 rfl) ?_
            refine lv_iconst (v := 0) hx hb dX7_addMotor_112 (by decide) ?_
            refine lv_iload_n hx hb dX7_addMotor_113 rfl (lv_at hl 1 rfl) ?_
            obtain ⟨r26, σ27, qr26, hF⟩ := bd_u hF
            refine bz_callV (rest := []) (st1 := []) C h (As := [.int x18, .int 0, .int x1_]) (o := none) (τ := σ27) (c_X7_put (l := l) ka0 (res := (r26, σ27)) qr26) ka0 (by decide) (ci := 7) rfl (cwV 3 hts (bz_gV wd_8_18 wd_8_19 wd_8_20 wd_1_5 wd_8_21) rfl rfl rfl (by decide +kernel) ⟨Nat.le_of_ble_eq_true rfl, Nat.le_of_ble_eq_true rfl⟩) rfl hl.1 rfl (by decide) ⟨Nat.zero_le _, Nat.zero_le _⟩ dX7_addMotor_114 rfl (fun H locs h => ?_)
            refine lv_aload_n hx hb dX7_addMotor_117 rfl (lv_at hl 0 rfl) ?_
            refine lv_iload hx hb dX7_addMotor_118 (lv_at hl 5 rfl) ?_
            refine lv_iconst (v := 1) hx hb dX7_addMotor_120 (by decide) ?_
            refine lv_iload_n hx hb dX7_addMotor_121 rfl (lv_at hl 2 rfl) ?_
            obtain ⟨r28, σ29, qr28, hF⟩ := bd_u hF
            refine bz_callV (rest := []) (st1 := []) C h (As := [.int x18, .int 1, .int x2_]) (o := none) (τ := σ29) (c_X7_put (l := l) ka0 (res := (r28, σ29)) qr28) ka0 (by decide) (ci := 7) rfl (cwV 3 hts (bz_gV wd_8_18 wd_8_19 wd_8_20 wd_1_5 wd_8_21) rfl rfl rfl (by decide +kernel) ⟨Nat.le_of_ble_eq_true rfl, Nat.le_of_ble_eq_true rfl⟩) rfl hl.1 rfl (by decide) ⟨Nat.zero_le _, Nat.zero_le _⟩ dX7_addMotor_122 rfl (fun H locs h => ?_)
            refine lv_aload_n hx hb dX7_addMotor_125 rfl (lv_at hl 0 rfl) ?_
            refine lv_iload hx hb dX7_addMotor_126 (lv_at hl 5 rfl) ?_
            refine lv_iconst (v := 2) hx hb dX7_addMotor_128 (by decide) ?_
            refine lv_iload_n hx hb dX7_addMotor_129 rfl (lv_at hl 3 rfl) ?_
            obtain ⟨r30, σ31, qr30, hF⟩ := bd_u hF
            refine bz_callV (rest := []) (st1 := []) C h (As := [.int x18, .int 2, .int x3_]) (o := none) (τ := σ31) (c_X7_put (l := l) ka0 (res := (r30, σ31)) qr30) ka0 (by decide) (ci := 7) rfl (cwV 3 hts (bz_gV wd_8_18 wd_8_19 wd_8_20 wd_1_5 wd_8_21) rfl rfl rfl (by decide +kernel) ⟨Nat.le_of_ble_eq_true rfl, Nat.le_of_ble_eq_true rfl⟩) rfl hl.1 rfl (by decide) ⟨Nat.zero_le _, Nat.zero_le _⟩ dX7_addMotor_130 rfl (fun H locs h => ?_)
            refine lv_aload_n hx hb dX7_addMotor_133 rfl (lv_at hl 0 rfl) ?_
            refine lv_iload hx hb dX7_addMotor_134 (lv_at hl 5 rfl) ?_
            refine lv_iconst (v := 3) hx hb dX7_addMotor_136 (by decide) ?_
            refine lv_iload hx hb dX7_addMotor_137 (lv_at hl 4 rfl) ?_
            obtain ⟨r32, σ33, qr32, hF⟩ := bd_u hF
            refine bz_callV (rest := []) (st1 := []) C h (As := [.int x18, .int 3, .int x4_]) (o := none) (τ := σ33) (c_X7_put (l := l) ka0 (res := (r32, σ33)) qr32) ka0 (by decide) (ci := 7) rfl (cwV 3 hts (bz_gV wd_8_18 wd_8_19 wd_8_20 wd_1_5 wd_8_21) rfl rfl rfl (by decide +kernel) ⟨Nat.le_of_ble_eq_true rfl, Nat.le_of_ble_eq_true rfl⟩) rfl hl.1 rfl (by decide) ⟨Nat.zero_le _, Nat.zero_le _⟩ dX7_addMotor_139 rfl (fun H locs h => ?_)
            refine lv_aload_n hx hb dX7_addMotor_142 rfl (lv_at hl 0 rfl) ?_
            refine lv_iload hx hb dX7_addMotor_143 (lv_at hl 5 rfl) ?_
            refine lv_iconst (v := 4) hx hb dX7_addMotor_145 (by decide) ?_
            refine lv_iconst (v := 5) hx hb dX7_addMotor_146 (by decide) ?_
            obtain ⟨r34, σ35, qr34, hF⟩ := bd_u hF
            refine bz_callV (rest := []) (st1 := []) C h (As := [.int x18, .int 4, .int 5]) (o := none) (τ := σ35) (c_X7_put (l := l) ka0 (res := (r34, σ35)) qr34) ka0 (by decide) (ci := 7) rfl (cwV 3 hts (bz_gV wd_8_18 wd_8_19 wd_8_20 wd_1_5 wd_8_21) rfl rfl rfl (by decide +kernel) ⟨Nat.le_of_ble_eq_true rfl, Nat.le_of_ble_eq_true rfl⟩) rfl hl.1 rfl (by decide) ⟨Nat.zero_le _, Nat.zero_le _⟩ dX7_addMotor_147 rfl (fun H locs h => ?_)
            refine lv_iload hx hb dX7_addMotor_150 (lv_at hl 5 rfl) ?_
            exact bz_iret C h hlocks hr hF dX7_addMotor_152
          · have hF := it_t hF c14
            refine lv_aload_n hx hb dX7_addMotor_56 rfl (lv_at hl 0 rfl) ?_
            refine lv_iconst (v := 5) hx hb dX7_addMotor_57 (by decide) ?_
            obtain ⟨r36, σ37, qr36, hF⟩ := bd_u hF
            refine bz_callV (rest := []) (st1 := [.int r36]) C h (As := [.int 5]) (o := some (.int r36)) (τ := σ37) (c_X7_refuse (l := l) ka0 (res := (r36, σ37)) qr36) ka0 (by decide) (ci := 7) rfl (cwV 1 hts (bz_gV wd_8_8 wd_8_9 wd_8_10 wd_1_5 wd_8_11) rfl rfl rfl (by decide +kernel) ⟨Nat.le_of_ble_eq_true rfl, Nat.le_of_ble_eq_true rfl⟩) rfl hl.1 rfl (by decide) ⟨Nat.zero_le _, Nat.zero_le _⟩ dX7_addMotor_58 rfl (fun H locs h => ?_)
            exact bz_iret C h hlocks hr hF dX7_addMotor_61
        · have hF := it_t hF c12
          refine lv_bipush (v := (-2)) hx hb dX7_addMotor_42 (by decide) ?_
          exact bz_iret C h hlocks hr hF dX7_addMotor_44
set_option maxHeartbeats 4000000 in
set_option maxRecDepth 100000 in
theorem c_X7_setNeed {l : Launch} {G : bz_G} {σ : bz_W} {a0 : Nat} {x1_ : Int32} {x2_ : Int32} (ka0 : bz_k G a0 = (8, 0)) {res : Int32 × bz_W} (hF : f_X7_setNeed σ a0 x1_ x2_ = some res) : bz_M l yX7_setNeed wz_X7_setNeed 2 43 G σ [.ref a0, .int x1_, .int x2_] (some (.int res.1)) res.2 := by
  refine bz_mk (cc := cX7_setNeed) (maxL := 4) (ret := (some .int)) (own := RX7) (by decide) rfl rfl (Nat.le_of_ble_eq_true rfl) ?_
  intro p e s m args below meth c ls C hlocks hr h hl
  have hx := C.1
  have hb := C.2.1
  have hts := C.2.2.2.2.1
  have hl : lv_has ls 4 [(0, .ref a0), (1, .int x1_), (2, .int x2_)] := hl
  obtain ⟨H, eH⟩ : ∃ y, y = s.heap := ⟨_, rfl⟩
  obtain ⟨locs, el⟩ : ∃ y : List Loc, y = [] := ⟨_, rfl⟩
  rw [← el, ← eH] at h ⊢
  unfold f_X7_setNeed at hF
  refine lv_aload_n hx hb dX7_setNeed_0 rfl (lv_at hl 0 rfl) ?_
  refine lv_iload_n hx hb dX7_setNeed_1 rfl (lv_at hl 1 rfl) ?_
  obtain ⟨r1, σ2, qr1, hF⟩ := bd_u hF
  refine bz_callV (rest := []) (st1 := [.int r1]) C h (As := [.int x1_]) (o := some (.int r1)) (τ := σ2) (c_X7_noMotor (l := l) ka0 (res := (r1, σ2)) qr1) ka0 (by decide) (ci := 7) rfl (cwV 1 hts (bz_gV wd_9_11 wd_9_12 wd_9_13 wd_1_5 wd_9_14) rfl rfl rfl (by decide +kernel) ⟨Nat.le_of_ble_eq_true rfl, Nat.le_of_ble_eq_true rfl⟩) rfl hl.1 rfl (by decide) ⟨Nat.zero_le _, Nat.zero_le _⟩ dX7_setNeed_2 rfl (fun H locs h => ?_)
  refine lv_if_eq (tgt := 10) hx hb dX7_setNeed_5 (by decide) (fun c3 => ?_) (fun c3 => ?_)
  · have hF := it_t hF c3
    refine lv_iload_n hx hb dX7_setNeed_10 rfl (lv_at hl 2 rfl) ?_
    refine lv_iconst (v := 0) hx hb dX7_setNeed_11 (by decide) ?_
    refine lv_bipush (v := 9) hx hb dX7_setNeed_12 (by decide) ?_
    obtain ⟨r4, σ5, qr4, hF⟩ := bd_u hF
    refine bz_callS (rest := []) (st1 := [.int r4]) C h (As := [.int x2_, .int 0, .int 9]) (o := some (.int r4)) (τ := σ5) (c_X7_in (l := l)  (res := (r4, σ5)) qr4) (va_cwS 3 hts (bz_gS wd_8_5 wd_8_6 wd_1_5 wd_8_7) rfl rfl rfl (by decide +kernel) ⟨Nat.le_of_ble_eq_true rfl, Nat.le_of_ble_eq_true rfl⟩) rfl hl.1 rfl (by decide) ⟨Nat.zero_le _, Nat.zero_le _⟩ dX7_setNeed_14 rfl (fun H locs h => ?_)
    refine lv_if_ne (tgt := 23) hx hb dX7_setNeed_17 (by decide) (fun c6 => ?_) (fun c6 => ?_)
    · have hF := it_f hF c6
      refine lv_aload_n hx hb dX7_setNeed_23 rfl (lv_at hl 0 rfl) ?_
      refine lv_iload_n hx hb dX7_setNeed_24 rfl (lv_at hl 1 rfl) ?_
      refine lv_iconst (v := 4) hx hb dX7_setNeed_25 (by decide) ?_
      obtain ⟨r7, σ8, qr7, hF⟩ := bd_u hF
      refine bz_callV (rest := []) (st1 := [.int r7]) C h (As := [.int x1_, .int 4]) (o := some (.int r7)) (τ := σ8) (c_X7_of (l := l) ka0 (res := (r7, σ8)) qr7) ka0 (by decide) (ci := 7) rfl (cwV 2 hts (bz_gV wd_9_15 wd_9_16 wd_9_17 wd_1_5 wd_9_18) rfl rfl rfl (by decide +kernel) ⟨Nat.le_of_ble_eq_true rfl, Nat.le_of_ble_eq_true rfl⟩) rfl hl.1 rfl (by decide) ⟨Nat.zero_le _, Nat.zero_le _⟩ dX7_setNeed_26 rfl (fun H locs h => ?_)
      refine lv_istore_n (lv' := [(3, .int r7), (0, .ref a0), (1, .int x1_), (2, .int x2_)]) hx hb dX7_setNeed_29 rfl hl (by decide) rfl (fun ls hl => ?_)
      refine lv_iload_n hx hb dX7_setNeed_30 rfl (lv_at hl 0 rfl) ?_
      refine lv_iload_n hx hb dX7_setNeed_31 rfl (lv_at hl 3 rfl) ?_
      refine lv_icmp_ne (tgt := 38) hx hb dX7_setNeed_32 (by decide) (fun c9 => ?_) (fun c9 => ?_)
      · have hF := it_f hF c9
        refine lv_aload_n hx hb dX7_setNeed_38 rfl (lv_at hl 1 rfl) ?_
        obtain ⟨r10, σ11, qr10, hF⟩ := bd_u hF
        refine bz_callV (rest := []) (st1 := []) C h (As := []) (o := none) (τ := σ11) (c_X7_record (l := l) ka0 (res := (r10, σ11)) qr10) ka0 (by decide) (ci := 7) rfl (cwV 0 hts (bz_gV wd_8_13 wd_8_14 wd_8_15 wd_1_5 wd_8_16) rfl rfl rfl (by decide +kernel) ⟨Nat.le_of_ble_eq_true rfl, Nat.le_of_ble_eq_true rfl⟩) rfl hl.1 rfl (by decide) ⟨Nat.zero_le _, Nat.zero_le _⟩ dX7_setNeed_39 rfl (fun H locs h => ?_)
        refine lv_aload_n hx hb dX7_setNeed_42 rfl (lv_at hl 1 rfl) ?_
        refine lv_iload_n hx hb dX7_setNeed_43 rfl (lv_at hl 2 rfl) ?_
        refine lv_iconst (v := 4) hx hb dX7_setNeed_44 (by decide) ?_
        refine lv_iload_n hx hb dX7_setNeed_45 rfl (lv_at hl 3 rfl) ?_
        obtain ⟨r12, σ13, qr12, hF⟩ := bd_u hF
        refine bz_callV (rest := []) (st1 := []) C h (As := [.int x1_, .int 4, .int x2_]) (o := none) (τ := σ13) (c_X7_put (l := l) ka0 (res := (r12, σ13)) qr12) ka0 (by decide) (ci := 7) rfl (cwV 3 hts (bz_gV wd_8_18 wd_8_19 wd_8_20 wd_1_5 wd_8_21) rfl rfl rfl (by decide +kernel) ⟨Nat.le_of_ble_eq_true rfl, Nat.le_of_ble_eq_true rfl⟩) rfl hl.1 rfl (by decide) ⟨Nat.zero_le _, Nat.zero_le _⟩ dX7_setNeed_46 rfl (fun H locs h => ?_)
        refine lv_iload_n hx hb dX7_setNeed_49 rfl (lv_at hl 0 rfl) ?_
        exact bz_iret C h hlocks hr hF dX7_setNeed_50
      · have hF := it_t hF c9
        refine lv_bipush (v := (-4)) hx hb dX7_setNeed_35 (by decide) ?_
        exact bz_iret C h hlocks hr hF dX7_setNeed_37
    · have hF := it_t hF c6
      refine lv_bipush (v := (-2)) hx hb dX7_setNeed_20 (by decide) ?_
      exact bz_iret C h hlocks hr hF dX7_setNeed_22
  · have hF := it_f hF c3
    refine lv_iconst (v := (-1)) hx hb dX7_setNeed_8 (by decide) ?_
    exact bz_iret C h hlocks hr hF dX7_setNeed_9
set_option maxHeartbeats 4000000 in
set_option maxRecDepth 100000 in
theorem c_X7_setLimit {l : Launch} {G : bz_G} {σ : bz_W} {a0 : Nat} {x1_ : Int32} (ka0 : bz_k G a0 = (8, 0)) {res : Int32 × bz_W} (hF : f_X7_setLimit σ a0 x1_ = some res) : bz_M l yX7_setLimit wz_X7_setLimit 1 22 G σ [.ref a0, .int x1_] (some (.int res.1)) res.2 := by
  refine bz_mk (cc := cX7_setLimit) (maxL := 3) (ret := (some .int)) (own := RX7) (by decide) rfl rfl (Nat.le_of_ble_eq_true rfl) ?_
  intro p e s m args below meth c ls C hlocks hr h hl
  have hx := C.1
  have hb := C.2.1
  have hts := C.2.2.2.2.1
  have hl : lv_has ls 3 [(0, .ref a0), (1, .int x1_)] := hl
  obtain ⟨H, eH⟩ : ∃ y, y = s.heap := ⟨_, rfl⟩
  obtain ⟨locs, el⟩ : ∃ y : List Loc, y = [] := ⟨_, rfl⟩
  rw [← el, ← eH] at h ⊢
  unfold f_X7_setLimit at hF
  refine lv_iload_n hx hb dX7_setLimit_0 rfl (lv_at hl 1 rfl) ?_
  refine lv_bipush (v := 10) hx hb dX7_setLimit_1 (by decide) ?_
  refine lv_sipush (v := 2000) hx hb dX7_setLimit_3 (by decide) ?_
  obtain ⟨r1, σ2, qr1, hF⟩ := bd_u hF
  refine bz_callS (rest := []) (st1 := [.int r1]) C h (As := [.int x1_, .int 10, .int 2000]) (o := some (.int r1)) (τ := σ2) (c_X7_in (l := l)  (res := (r1, σ2)) qr1) (va_cwS 3 hts (bz_gS wd_8_5 wd_8_6 wd_1_5 wd_8_7) rfl rfl rfl (by decide +kernel) ⟨Nat.le_of_ble_eq_true rfl, Nat.le_of_ble_eq_true rfl⟩) rfl hl.1 rfl (by decide) ⟨Nat.zero_le _, Nat.zero_le _⟩ dX7_setLimit_6 rfl (fun H locs h => ?_)
  refine lv_if_ne (tgt := 15) hx hb dX7_setLimit_9 (by decide) (fun c3 => ?_) (fun c3 => ?_)
  · have hF := it_f hF c3
    refine lv_aload_n hx hb dX7_setLimit_15 rfl (lv_at hl 0 rfl) ?_
    refine gf_7_0 C h ka0 iz_X7 (List.mem_cons_of_mem _ wd_4_13) dX7_setLimit_16 (fun k4 => ?_)
    refine lv_iconst (v := 2) hx hb dX7_setLimit_19 (by decide) ?_
    refine bz_iald C h k4 (by decide) (kx := 2) (bz_cl 2 (by decide)) dX7_setLimit_20 ?_
    refine lv_topi (fun x5 ex5 => ?_)
    have hF := lt_u hF x5 ex5
    refine lv_istore_n (lv' := [(2, .int x5), (0, .ref a0), (1, .int x1_)]) hx hb dX7_setLimit_21 rfl hl (by decide) rfl (fun ls hl => ?_)
    refine lv_iload_n hx hb dX7_setLimit_22 rfl (lv_at hl 0 rfl) ?_
    refine lv_iload_n hx hb dX7_setLimit_23 rfl (lv_at hl 2 rfl) ?_
    refine lv_icmp_ne (tgt := 30) hx hb dX7_setLimit_24 (by decide) (fun c6 => ?_) (fun c6 => ?_)
    · have hF := it_f hF c6
      refine lv_aload_n hx hb dX7_setLimit_30 rfl (lv_at hl 1 rfl) ?_
      obtain ⟨r7, σ8, qr7, hF⟩ := bd_u hF
      refine bz_callV (rest := []) (st1 := []) C h (As := []) (o := none) (τ := σ8) (c_X7_record (l := l) ka0 (res := (r7, σ8)) qr7) ka0 (by decide) (ci := 7) rfl (cwV 0 hts (bz_gV wd_8_13 wd_8_14 wd_8_15 wd_1_5 wd_8_16) rfl rfl rfl (by decide +kernel) ⟨Nat.le_of_ble_eq_true rfl, Nat.le_of_ble_eq_true rfl⟩) rfl hl.1 rfl (by decide) ⟨Nat.zero_le _, Nat.zero_le _⟩ dX7_setLimit_31 rfl (fun H locs h => ?_)
      refine lv_aload_n hx hb dX7_setLimit_34 rfl (lv_at hl 1 rfl) ?_
      refine gf_7_0 C h ka0 iz_X7 (List.mem_cons_of_mem _ wd_4_13) dX7_setLimit_35 (fun k9 => ?_)
      refine lv_iconst (v := 2) hx hb dX7_setLimit_38 (by decide) ?_
      refine lv_iload_n hx hb dX7_setLimit_39 rfl (lv_at hl 2 rfl) ?_
      refine bz_iast C h k9 (by decide) (kx := 2) (bz_cl 2 (by decide)) dX7_setLimit_40 (fun H locs h => ?_)
      obtain ⟨σ10, eσ10⟩ : ∃ y : bz_W, y = bz_wi σ8 (σ8.2 a0 0) 2 x1_ := ⟨_, rfl⟩
      rw [← eσ10] at h
      have hF := lt_u hF σ10 eσ10
      refine lv_iload_n hx hb dX7_setLimit_41 rfl (lv_at hl 0 rfl) ?_
      exact bz_iret C h hlocks hr hF dX7_setLimit_42
    · have hF := it_t hF c6
      refine lv_bipush (v := (-4)) hx hb dX7_setLimit_27 (by decide) ?_
      exact bz_iret C h hlocks hr hF dX7_setLimit_29
  · have hF := it_t hF c3
    refine lv_bipush (v := (-2)) hx hb dX7_setLimit_12 (by decide) ?_
    exact bz_iret C h hlocks hr hF dX7_setLimit_14
set_option maxHeartbeats 4000000 in
set_option maxRecDepth 100000 in
theorem c_X7_setFan {l : Launch} {G : bz_G} {σ : bz_W} {a0 : Nat} {x1_ : Int32} (ka0 : bz_k G a0 = (8, 0)) {res : Int32 × bz_W} (hF : f_X7_setFan σ a0 x1_ = some res) : bz_M l yX7_setFan wz_X7_setFan 1 21 G σ [.ref a0, .int x1_] (some (.int res.1)) res.2 := by
  refine bz_mk (cc := cX7_setFan) (maxL := 3) (ret := (some .int)) (own := RX7) (by decide) rfl rfl (Nat.le_of_ble_eq_true rfl) ?_
  intro p e s m args below meth c ls C hlocks hr h hl
  have hx := C.1
  have hb := C.2.1
  have hts := C.2.2.2.2.1
  have hl : lv_has ls 3 [(0, .ref a0), (1, .int x1_)] := hl
  obtain ⟨H, eH⟩ : ∃ y, y = s.heap := ⟨_, rfl⟩
  obtain ⟨locs, el⟩ : ∃ y : List Loc, y = [] := ⟨_, rfl⟩
  rw [← el, ← eH] at h ⊢
  unfold f_X7_setFan at hF
  refine lv_iload_n hx hb dX7_setFan_0 rfl (lv_at hl 1 rfl) ?_
  obtain ⟨j3, ej3, hF⟩ := lt_j hF
  have hj3 : ∀ (y1 : Int32) (σ2 : bz_W) (H : Heap) (locs : List Loc) (ls : Array Slot), j3 y1 σ2 = some res → bz_H G s σ2 H locs → lv_has ls 3 [(0, .ref a0)] → W p l e ({ frames := 1, cells := 0, slots := 0, locals := 21 } : Room) s m args below meth c H locs 0 0 (MQ below (bz_Qc G (some (.int res.1)) res.2) args s 0 0 (bz_A G)) (F0 m 9 ls [.int y1]) := by
      intro y1 σ2 H locs ls hF h hl
      subst ej3
      refine lv_istore_n (lv' := [(2, .int y1), (0, .ref a0)]) hx hb dX7_setFan_9 rfl hl (by decide) rfl (fun ls hl => ?_)
      refine lv_aload_n hx hb dX7_setFan_10 rfl (lv_at hl 1 rfl) ?_
      refine gf_7_0 C h ka0 iz_X7 (List.mem_cons_of_mem _ wd_4_13) dX7_setFan_11 (fun k4 => ?_)
      refine lv_iconst (v := 3) hx hb dX7_setFan_14 (by decide) ?_
      refine bz_iald C h k4 (by decide) (kx := 3) (bz_cl 3 (by decide)) dX7_setFan_15 ?_
      refine lv_iload_n hx hb dX7_setFan_16 rfl (lv_at hl 0 rfl) ?_
      refine lv_icmp_ne (tgt := 23) hx hb dX7_setFan_17 (by decide) (fun c5 => ?_) (fun c5 => ?_)
      · have hF := it_f hF c5
        refine lv_aload_n hx hb dX7_setFan_23 rfl (lv_at hl 1 rfl) ?_
        obtain ⟨r6, σ7, qr6, hF⟩ := bd_u hF
        refine bz_callV (rest := []) (st1 := []) C h (As := []) (o := none) (τ := σ7) (c_X7_record (l := l) ka0 (res := (r6, σ7)) qr6) ka0 (by decide) (ci := 7) rfl (cwV 0 hts (bz_gV wd_8_13 wd_8_14 wd_8_15 wd_1_5 wd_8_16) rfl rfl rfl (by decide +kernel) ⟨Nat.le_of_ble_eq_true rfl, Nat.le_of_ble_eq_true rfl⟩) rfl hl.1 rfl (by decide) ⟨Nat.zero_le _, Nat.zero_le _⟩ dX7_setFan_24 rfl (fun H locs h => ?_)
        refine lv_aload_n hx hb dX7_setFan_27 rfl (lv_at hl 1 rfl) ?_
        refine gf_7_0 C h ka0 iz_X7 (List.mem_cons_of_mem _ wd_4_13) dX7_setFan_28 (fun k8 => ?_)
        refine lv_iconst (v := 3) hx hb dX7_setFan_31 (by decide) ?_
        refine lv_iload_n hx hb dX7_setFan_32 rfl (lv_at hl 0 rfl) ?_
        refine bz_iast C h k8 (by decide) (kx := 3) (bz_cl 3 (by decide)) dX7_setFan_33 (fun H locs h => ?_)
        obtain ⟨σ9, eσ9⟩ : ∃ y : bz_W, y = bz_wi σ7 (σ7.2 a0 0) 3 y1 := ⟨_, rfl⟩
        rw [← eσ9] at h
        have hF := lt_u hF σ9 eσ9
        refine lv_iload_n hx hb dX7_setFan_34 rfl (lv_at hl 0 rfl) ?_
        exact bz_iret C h hlocks hr hF dX7_setFan_35
      · have hF := it_t hF c5
        refine lv_bipush (v := (-4)) hx hb dX7_setFan_20 (by decide) ?_
        exact bz_iret C h hlocks hr hF dX7_setFan_22
  refine lv_if_eq (tgt := 8) hx hb dX7_setFan_1 (by decide) (fun c10 => ?_) (fun c10 => ?_)
  · have hF := it_t hF c10
    refine lv_iconst (v := 0) hx hb dX7_setFan_8 (by decide) ?_
    exact hj3 _ _ H locs ls hF h (lv_sub hl [0] rfl)
  · have hF := it_f hF c10
    refine lv_iconst (v := 1) hx hb dX7_setFan_4 (by decide) ?_
    refine lv_goto (tgt := 9) hx hb dX7_setFan_5 (by decide) ?_
    exact hj3 _ _ H locs ls hF h (lv_sub hl [0] rfl)
set_option maxHeartbeats 4000000 in
set_option maxRecDepth 100000 in
theorem c_X7_turns {l : Launch} {G : bz_G} {σ : bz_W} {a0 : Nat} {x1_ : Int32} (ka0 : bz_k G a0 = (8, 0)) {res : Int32 × bz_W} (hF : f_X7_turns σ a0 x1_ = some res) : bz_M l yX7_turns wz_X7_turns 1 22 G σ [.ref a0, .int x1_] (some (.int res.1)) res.2 := by
  refine bz_mk (cc := cX7_turns) (maxL := 2) (ret := (some .boolean)) (own := RX7) (by decide) rfl rfl (Nat.le_of_ble_eq_true rfl) ?_
  intro p e s m args below meth c ls C hlocks hr h hl
  have hx := C.1
  have hb := C.2.1
  have hts := C.2.2.2.2.1
  have hl : lv_has ls 2 [(0, .ref a0), (1, .int x1_)] := hl
  obtain ⟨H, eH⟩ : ∃ y, y = s.heap := ⟨_, rfl⟩
  obtain ⟨locs, el⟩ : ∃ y : List Loc, y = [] := ⟨_, rfl⟩
  rw [← el, ← eH] at h ⊢
  unfold f_X7_turns at hF
  refine lv_aload_n hx hb dX7_turns_0 rfl (lv_at hl 0 rfl) ?_
  refine lv_iload_n hx hb dX7_turns_1 rfl (lv_at hl 1 rfl) ?_
  refine lv_iconst (v := 5) hx hb dX7_turns_2 (by decide) ?_
  obtain ⟨r1, σ2, qr1, hF⟩ := bd_u hF
  refine bz_callV (rest := []) (st1 := [.int r1]) C h (As := [.int x1_, .int 5]) (o := some (.int r1)) (τ := σ2) (c_X7_of (l := l) ka0 (res := (r1, σ2)) qr1) ka0 (by decide) (ci := 7) rfl (cwV 2 hts (bz_gV wd_9_15 wd_9_16 wd_9_17 wd_1_5 wd_9_18) rfl rfl rfl (by decide +kernel) ⟨Nat.le_of_ble_eq_true rfl, Nat.le_of_ble_eq_true rfl⟩) rfl hl.1 rfl (by decide) ⟨Nat.zero_le _, Nat.zero_le _⟩ dX7_turns_3 rfl (fun H locs h => ?_)
  refine lv_iconst (v := 2) hx hb dX7_turns_6 (by decide) ?_
  refine lv_icmp_eq (tgt := 20) hx hb dX7_turns_7 (by decide) (fun c3 => ?_) (fun c3 => ?_)
  · have hF := it_t hF c3
    refine lv_iconst (v := 1) hx hb dX7_turns_20 (by decide) ?_
    refine lv_goto (tgt := 25) hx hb dX7_turns_21 (by decide) ?_
    exact bz_zret C h hlocks hr (by decide) hF dX7_turns_25
  · have hF := it_f hF c3
    refine lv_aload_n hx hb dX7_turns_10 rfl (lv_at hl 0 rfl) ?_
    refine lv_iload_n hx hb dX7_turns_11 rfl (lv_at hl 1 rfl) ?_
    refine lv_iconst (v := 5) hx hb dX7_turns_12 (by decide) ?_
    obtain ⟨r4, σ5, qr4, hF⟩ := bd_u hF
    refine bz_callV (rest := []) (st1 := [.int r4]) C h (As := [.int x1_, .int 5]) (o := some (.int r4)) (τ := σ5) (c_X7_of (l := l) ka0 (res := (r4, σ5)) qr4) ka0 (by decide) (ci := 7) rfl (cwV 2 hts (bz_gV wd_9_15 wd_9_16 wd_9_17 wd_1_5 wd_9_18) rfl rfl rfl (by decide +kernel) ⟨Nat.le_of_ble_eq_true rfl, Nat.le_of_ble_eq_true rfl⟩) rfl hl.1 rfl (by decide) ⟨Nat.zero_le _, Nat.zero_le _⟩ dX7_turns_13 rfl (fun H locs h => ?_)
    refine lv_iconst (v := 3) hx hb dX7_turns_16 (by decide) ?_
    refine lv_icmp_ne (tgt := 24) hx hb dX7_turns_17 (by decide) (fun c6 => ?_) (fun c6 => ?_)
    · have hF := it_f hF c6
      refine lv_iconst (v := 0) hx hb dX7_turns_24 (by decide) ?_
      exact bz_zret C h hlocks hr (by decide) hF dX7_turns_25
    · have hF := it_t hF c6
      refine lv_iconst (v := 1) hx hb dX7_turns_20 (by decide) ?_
      refine lv_goto (tgt := 25) hx hb dX7_turns_21 (by decide) ?_
      exact bz_zret C h hlocks hr (by decide) hF dX7_turns_25
