set_option maxHeartbeats 4000000 in
set_option maxRecDepth 100000 in
theorem c_X7_peak {l : Launch} {G : bz_G} {σ : bz_W} {a0 : Nat} {x1_ : Int32} (ka0 : bz_k G a0 = (8, 0)) {res : Int32 × bz_W} (hF : f_X7_peak σ a0 x1_ = some res) : bz_M l yX7_peak wz_X7_peak 1 22 G σ [.ref a0, .int x1_] (some (.int res.1)) res.2 := by
  refine bz_mk (cc := cX7_peak) (maxL := 2) (ret := (some .int)) (own := RX7) (by decide) rfl rfl (Nat.le_of_ble_eq_true rfl) ?_
  intro p e s m args below meth c ls C hlocks hr h hl
  have hx := C.1
  have hb := C.2.1
  have hts := C.2.2.2.2.1
  have hl : lv_has ls 2 [(0, .ref a0), (1, .int x1_)] := hl
  obtain ⟨H, eH⟩ : ∃ y, y = s.heap := ⟨_, rfl⟩
  obtain ⟨locs, el⟩ : ∃ y : List Loc, y = [] := ⟨_, rfl⟩
  rw [← el, ← eH] at h ⊢
  unfold f_X7_peak at hF
  refine lv_aload_n hx hb dX7_peak_0 rfl (lv_at hl 0 rfl) ?_
  refine lv_iload_n hx hb dX7_peak_1 rfl (lv_at hl 1 rfl) ?_
  refine lv_iconst (v := 0) hx hb dX7_peak_2 (by decide) ?_
  obtain ⟨r1, σ2, qr1, hF⟩ := bd_u hF
  refine bz_callV (rest := []) (st1 := [.int r1]) C h (As := [.int x1_, .int 0]) (o := some (.int r1)) (τ := σ2) (c_X7_of (l := l) ka0 (res := (r1, σ2)) qr1) ka0 (by decide) (ci := 7) rfl (cwV 2 hts (bz_gV wd_9_15 wd_9_16 wd_9_17 wd_1_5 wd_9_18) rfl rfl rfl (by decide +kernel) ⟨Nat.le_of_ble_eq_true rfl, Nat.le_of_ble_eq_true rfl⟩) rfl hl.1 rfl (by decide) ⟨Nat.zero_le _, Nat.zero_le _⟩ dX7_peak_3 rfl (fun H locs h => ?_)
  refine lv_aload_n hx hb dX7_peak_6 rfl (lv_at hl 0 rfl) ?_
  refine lv_iload_n hx hb dX7_peak_7 rfl (lv_at hl 1 rfl) ?_
  refine lv_iconst (v := 2) hx hb dX7_peak_8 (by decide) ?_
  obtain ⟨r3, σ4, qr3, hF⟩ := bd_u hF
  refine bz_callV (rest := [.int r1]) (st1 := [.int r3, .int r1]) C h (As := [.int x1_, .int 2]) (o := some (.int r3)) (τ := σ4) (c_X7_of (l := l) ka0 (res := (r3, σ4)) qr3) ka0 (by decide) (ci := 7) rfl (cwV 2 hts (bz_gV wd_9_15 wd_9_16 wd_9_17 wd_1_5 wd_9_18) rfl rfl rfl (by decide +kernel) ⟨Nat.le_of_ble_eq_true rfl, Nat.le_of_ble_eq_true rfl⟩) rfl hl.1 rfl (Nat.le_of_ble_eq_true rfl) ⟨Nat.zero_le _, Nat.zero_le _⟩ dX7_peak_9 rfl (fun H locs h => ?_)
  refine lv_imul hx hb dX7_peak_12 ?_
  exact bz_iret C h hlocks hr hF dX7_peak_13
set_option maxHeartbeats 4000000 in
set_option maxRecDepth 100000 in
theorem c_X7_ramped {l : Launch} {G : bz_G} {σ : bz_W} {x0_ : Int32} {x1_ : Int32} {x2_ : Int32}  {res : Int32 × bz_W} (hF : f_X7_ramped σ x0_ x1_ x2_ = some res) : bz_M l yX7_ramped wz_X7_ramped 0 0 G σ [.int x0_, .int x1_, .int x2_] (some (.int res.1)) res.2 := by
  refine bz_mk (cc := cX7_ramped) (maxL := 3) (ret := (some .int)) (own := RX7) (by decide) rfl rfl (Nat.le_of_ble_eq_true rfl) ?_
  intro p e s m args below meth c ls C hlocks hr h hl
  have hx := C.1
  have hb := C.2.1
  have hts := C.2.2.2.2.1
  have hl : lv_has ls 3 [(0, .int x0_), (1, .int x1_), (2, .int x2_)] := hl
  obtain ⟨H, eH⟩ : ∃ y, y = s.heap := ⟨_, rfl⟩
  obtain ⟨locs, el⟩ : ∃ y : List Loc, y = [] := ⟨_, rfl⟩
  rw [← el, ← eH] at h ⊢
  unfold f_X7_ramped at hF
  refine lv_iload_n hx hb dX7_ramped_0 rfl (lv_at hl 0 rfl) ?_
  refine lv_iload_n hx hb dX7_ramped_1 rfl (lv_at hl 2 rfl) ?_
  refine lv_iconst (v := 1) hx hb dX7_ramped_2 (by decide) ?_
  refine lv_iadd hx hb dX7_ramped_3 ?_
  refine lv_imul hx hb dX7_ramped_4 ?_
  refine lv_iload_n hx hb dX7_ramped_5 rfl (lv_at hl 1 rfl) ?_
  refine lv_iadd hx hb dX7_ramped_6 ?_
  refine lv_iconst (v := 1) hx hb dX7_ramped_7 (by decide) ?_
  refine lv_isub hx hb dX7_ramped_8 ?_
  refine lv_iload_n hx hb dX7_ramped_9 rfl (lv_at hl 1 rfl) ?_
  obtain ⟨c1, hF⟩ := ck_u hF
  refine lv_idiv hx hb dX7_ramped_10 (by simpa using c1) ?_
  exact bz_iret C h hlocks hr hF dX7_ramped_11
set_option maxHeartbeats 4000000 in
set_option maxRecDepth 100000 in
theorem c_X7_draws {l : Launch} {G : bz_G} {σ : bz_W} {a0 : Nat} {x1_ : Int32} (ka0 : bz_k G a0 = (8, 0)) {res : Int32 × bz_W} (hF : f_X7_draws σ a0 x1_ = some res) : bz_M l yX7_draws wz_X7_draws 2 43 G σ [.ref a0, .int x1_] (some (.int res.1)) res.2 := by
  refine bz_mk (cc := cX7_draws) (maxL := 2) (ret := (some .int)) (own := RX7) (by decide) rfl rfl (Nat.le_of_ble_eq_true rfl) ?_
  intro p e s m args below meth c ls C hlocks hr h hl
  have hx := C.1
  have hb := C.2.1
  have hts := C.2.2.2.2.1
  have hl : lv_has ls 2 [(0, .ref a0), (1, .int x1_)] := hl
  obtain ⟨H, eH⟩ : ∃ y, y = s.heap := ⟨_, rfl⟩
  obtain ⟨locs, el⟩ : ∃ y : List Loc, y = [] := ⟨_, rfl⟩
  rw [← el, ← eH] at h ⊢
  unfold f_X7_draws at hF
  refine lv_aload_n hx hb dX7_draws_0 rfl (lv_at hl 0 rfl) ?_
  refine lv_iload_n hx hb dX7_draws_1 rfl (lv_at hl 1 rfl) ?_
  refine lv_iconst (v := 5) hx hb dX7_draws_2 (by decide) ?_
  obtain ⟨r1, σ2, qr1, hF⟩ := bd_u hF
  refine bz_callV (rest := []) (st1 := [.int r1]) C h (As := [.int x1_, .int 5]) (o := some (.int r1)) (τ := σ2) (c_X7_of (l := l) ka0 (res := (r1, σ2)) qr1) ka0 (by decide) (ci := 7) rfl (cwV 2 hts (bz_gV wd_9_15 wd_9_16 wd_9_17 wd_1_5 wd_9_18) rfl rfl rfl (by decide +kernel) ⟨Nat.le_of_ble_eq_true rfl, Nat.le_of_ble_eq_true rfl⟩) rfl hl.1 rfl (by decide) ⟨Nat.zero_le _, Nat.zero_le _⟩ dX7_draws_3 rfl (fun H locs h => ?_)
  refine lv_iconst (v := 2) hx hb dX7_draws_6 (by decide) ?_
  refine lv_icmp_ne (tgt := 32) hx hb dX7_draws_7 (by decide) (fun c3 => ?_) (fun c3 => ?_)
  · have hF := it_f hF c3
    refine lv_aload_n hx hb dX7_draws_32 rfl (lv_at hl 0 rfl) ?_
    refine lv_iload_n hx hb dX7_draws_33 rfl (lv_at hl 1 rfl) ?_
    refine lv_iconst (v := 5) hx hb dX7_draws_34 (by decide) ?_
    obtain ⟨r4, σ5, qr4, hF⟩ := bd_u hF
    refine bz_callV (rest := []) (st1 := [.int r4]) C h (As := [.int x1_, .int 5]) (o := some (.int r4)) (τ := σ5) (c_X7_of (l := l) ka0 (res := (r4, σ5)) qr4) ka0 (by decide) (ci := 7) rfl (cwV 2 hts (bz_gV wd_9_15 wd_9_16 wd_9_17 wd_1_5 wd_9_18) rfl rfl rfl (by decide +kernel) ⟨Nat.le_of_ble_eq_true rfl, Nat.le_of_ble_eq_true rfl⟩) rfl hl.1 rfl (by decide) ⟨Nat.zero_le _, Nat.zero_le _⟩ dX7_draws_35 rfl (fun H locs h => ?_)
    refine lv_iconst (v := 3) hx hb dX7_draws_38 (by decide) ?_
    refine lv_icmp_eq (tgt := 44) hx hb dX7_draws_39 (by decide) (fun c6 => ?_) (fun c6 => ?_)
    · have hF := it_t hF c6
      refine lv_aload_n hx hb dX7_draws_44 rfl (lv_at hl 0 rfl) ?_
      refine lv_iload_n hx hb dX7_draws_45 rfl (lv_at hl 1 rfl) ?_
      refine lv_bipush (v := 7) hx hb dX7_draws_46 (by decide) ?_
      obtain ⟨r7, σ8, qr7, hF⟩ := bd_u hF
      refine bz_callV (rest := []) (st1 := [.int r7]) C h (As := [.int x1_, .int 7]) (o := some (.int r7)) (τ := σ8) (c_X7_of (l := l) ka0 (res := (r7, σ8)) qr7) ka0 (by decide) (ci := 7) rfl (cwV 2 hts (bz_gV wd_9_15 wd_9_16 wd_9_17 wd_1_5 wd_9_18) rfl rfl rfl (by decide +kernel) ⟨Nat.le_of_ble_eq_true rfl, Nat.le_of_ble_eq_true rfl⟩) rfl hl.1 rfl (by decide) ⟨Nat.zero_le _, Nat.zero_le _⟩ dX7_draws_48 rfl (fun H locs h => ?_)
      refine lv_if_ne (tgt := 63) hx hb dX7_draws_51 (by decide) (fun c9 => ?_) (fun c9 => ?_)
      · have hF := it_f hF c9
        refine lv_aload_n hx hb dX7_draws_63 rfl (lv_at hl 0 rfl) ?_
        refine lv_iload_n hx hb dX7_draws_64 rfl (lv_at hl 1 rfl) ?_
        refine lv_iconst (v := 0) hx hb dX7_draws_65 (by decide) ?_
        obtain ⟨r10, σ11, qr10, hF⟩ := bd_u hF
        refine bz_callV (rest := []) (st1 := [.int r10]) C h (As := [.int x1_, .int 0]) (o := some (.int r10)) (τ := σ11) (c_X7_of (l := l) ka0 (res := (r10, σ11)) qr10) ka0 (by decide) (ci := 7) rfl (cwV 2 hts (bz_gV wd_9_15 wd_9_16 wd_9_17 wd_1_5 wd_9_18) rfl rfl rfl (by decide +kernel) ⟨Nat.le_of_ble_eq_true rfl, Nat.le_of_ble_eq_true rfl⟩) rfl hl.1 rfl (by decide) ⟨Nat.zero_le _, Nat.zero_le _⟩ dX7_draws_66 rfl (fun H locs h => ?_)
        refine lv_iconst (v := 3) hx hb dX7_draws_69 (by decide) ?_
        refine lv_imul hx hb dX7_draws_70 ?_
        refine lv_iconst (v := 2) hx hb dX7_draws_71 (by decide) ?_
        refine lv_idiv hx hb dX7_draws_72 (by decide) ?_
        exact bz_iret C h hlocks hr hF dX7_draws_73
      · have hF := it_t hF c9
        refine lv_aload_n hx hb dX7_draws_54 rfl (lv_at hl 0 rfl) ?_
        refine lv_iload_n hx hb dX7_draws_55 rfl (lv_at hl 1 rfl) ?_
        refine lv_iconst (v := 0) hx hb dX7_draws_56 (by decide) ?_
        obtain ⟨r12, σ13, qr12, hF⟩ := bd_u hF
        refine bz_callV (rest := []) (st1 := [.int r12]) C h (As := [.int x1_, .int 0]) (o := some (.int r12)) (τ := σ13) (c_X7_of (l := l) ka0 (res := (r12, σ13)) qr12) ka0 (by decide) (ci := 7) rfl (cwV 2 hts (bz_gV wd_9_15 wd_9_16 wd_9_17 wd_1_5 wd_9_18) rfl rfl rfl (by decide +kernel) ⟨Nat.le_of_ble_eq_true rfl, Nat.le_of_ble_eq_true rfl⟩) rfl hl.1 rfl (by decide) ⟨Nat.zero_le _, Nat.zero_le _⟩ dX7_draws_57 rfl (fun H locs h => ?_)
        refine lv_goto (tgt := 73) hx hb dX7_draws_60 (by decide) ?_
        exact bz_iret C h hlocks hr hF dX7_draws_73
    · have hF := it_f hF c6
      refine lv_iconst (v := 0) hx hb dX7_draws_42 (by decide) ?_
      exact bz_iret C h hlocks hr hF dX7_draws_43
  · have hF := it_t hF c3
    refine lv_aload_n hx hb dX7_draws_10 rfl (lv_at hl 0 rfl) ?_
    refine lv_iload_n hx hb dX7_draws_11 rfl (lv_at hl 1 rfl) ?_
    obtain ⟨r14, σ15, qr14, hF⟩ := bd_u hF
    refine bz_callV (rest := []) (st1 := [.int r14]) C h (As := [.int x1_]) (o := some (.int r14)) (τ := σ15) (c_X7_peak (l := l) ka0 (res := (r14, σ15)) qr14) ka0 (by decide) (ci := 7) rfl (cwV 1 hts (bz_gV wd_21_0 wd_21_1 wd_21_2 wd_1_5 wd_21_3) rfl rfl rfl (by decide +kernel) ⟨Nat.le_of_ble_eq_true rfl, Nat.le_of_ble_eq_true rfl⟩) rfl hl.1 rfl (by decide) ⟨Nat.zero_le _, Nat.zero_le _⟩ dX7_draws_12 rfl (fun H locs h => ?_)
    refine lv_aload_n hx hb dX7_draws_15 rfl (lv_at hl 0 rfl) ?_
    refine lv_iload_n hx hb dX7_draws_16 rfl (lv_at hl 1 rfl) ?_
    refine lv_iconst (v := 1) hx hb dX7_draws_17 (by decide) ?_
    obtain ⟨r16, σ17, qr16, hF⟩ := bd_u hF
    refine bz_callV (rest := [.int r14]) (st1 := [.int r16, .int r14]) C h (As := [.int x1_, .int 1]) (o := some (.int r16)) (τ := σ17) (c_X7_of (l := l) ka0 (res := (r16, σ17)) qr16) ka0 (by decide) (ci := 7) rfl (cwV 2 hts (bz_gV wd_9_15 wd_9_16 wd_9_17 wd_1_5 wd_9_18) rfl rfl rfl (by decide +kernel) ⟨Nat.le_of_ble_eq_true rfl, Nat.le_of_ble_eq_true rfl⟩) rfl hl.1 rfl (Nat.le_of_ble_eq_true rfl) ⟨Nat.zero_le _, Nat.zero_le _⟩ dX7_draws_18 rfl (fun H locs h => ?_)
    refine lv_aload_n hx hb dX7_draws_21 rfl (lv_at hl 0 rfl) ?_
    refine lv_iload_n hx hb dX7_draws_22 rfl (lv_at hl 1 rfl) ?_
    refine lv_bipush (v := 8) hx hb dX7_draws_23 (by decide) ?_
    obtain ⟨r18, σ19, qr18, hF⟩ := bd_u hF
    refine bz_callV (rest := [.int r16, .int r14]) (st1 := [.int r18, .int r16, .int r14]) C h (As := [.int x1_, .int 8]) (o := some (.int r18)) (τ := σ19) (c_X7_of (l := l) ka0 (res := (r18, σ19)) qr18) ka0 (by decide) (ci := 7) rfl (cwV 2 hts (bz_gV wd_9_15 wd_9_16 wd_9_17 wd_1_5 wd_9_18) rfl rfl rfl (by decide +kernel) ⟨Nat.le_of_ble_eq_true rfl, Nat.le_of_ble_eq_true rfl⟩) rfl hl.1 rfl (Nat.le_of_ble_eq_true rfl) ⟨Nat.zero_le _, Nat.zero_le _⟩ dX7_draws_25 rfl (fun H locs h => ?_)
    obtain ⟨r20, σ21, qr20, hF⟩ := bd_u hF
    refine bz_callS (rest := []) (st1 := [.int r20]) C h (As := [.int r14, .int r16, .int r18]) (o := some (.int r20)) (τ := σ21) (c_X7_ramped (l := l)  (res := (r20, σ21)) qr20) (va_cwS 3 hts (bz_gS wd_21_4 wd_21_5 wd_1_5 wd_21_6) rfl rfl rfl (by decide +kernel) ⟨Nat.le_of_ble_eq_true rfl, Nat.le_of_ble_eq_true rfl⟩) rfl hl.1 rfl (by decide) ⟨Nat.zero_le _, Nat.zero_le _⟩ dX7_draws_28 rfl (fun H locs h => ?_)
    exact bz_iret C h hlocks hr hF dX7_draws_31
set_option maxHeartbeats 4000000 in
set_option maxRecDepth 100000 in
theorem L_X7_heatOfRamp_L5 {p : Program} {l : Launch} {e : Env} {s : State} {m : MethodId} {args : Array Value} {below : List Frame} {meth : Method} {c : Code} {G : bz_G} (C : bz_C p s m c args cX7_heatOfRamp 6 RX7 wz_X7_heatOfRamp G) (hlocks : meth.locks = false) (hr : meth.sig.returnType = (some .int)) {a0 : Nat} {a1 : Int32} {a2 : Int32} (ka0 : bz_k G a0 = (8, 0)) {k : Int32 → bz_W → Option (Int32 × bz_W)} {res : Int32 × bz_W} : ∀ (n : Nat) (v3 : Int32) (v4 : Int32) (σ : bz_W) (H : Heap) (locs : List Loc) (ls : Array Slot), f_X7_heatOfRamp_L5 a0 a1 a2 k n v3 v4 σ = some res → bz_H G s σ H locs → lv_has ls 6 [(0, .ref a0), (1, .int a1), (2, .int a2), (3, .int v3), (4, .int v4)] → (∀ (w3 : Int32) (σ : bz_W) (H : Heap) (locs : List Loc) (ls : Array Slot), k w3 σ = some res → bz_H G s σ H locs → lv_has ls 6 [(3, .int w3)] → W p l e ({ frames := 2, cells := 0, slots := 0, locals := 43 } : Room) s m args below meth c H locs 0 0 (MQ below (bz_Qc G (some (.int res.1)) res.2) args s 0 0 (bz_A G)) (F0 m 41 ls [])) → W p l e ({ frames := 2, cells := 0, slots := 0, locals := 43 } : Room) s m args below meth c H locs 0 0 (MQ below (bz_Qc G (some (.int res.1)) res.2) args s 0 0 (bz_A G)) (F0 m 5 ls []) := by
  have hx := C.1
  have hb := C.2.1
  have hts := C.2.2.2.2.1
  intro n
  induction n with
  | zero =>
    intro v3 v4 σ H locs ls hF
    exact absurd hF (by simp [f_X7_heatOfRamp_L5])
  | succ n ih =>
    intro v3 v4 σ H locs ls hF h hl hk
    rw [f_X7_heatOfRamp_L5] at hF
    refine lv_iload hx hb dX7_heatOfRamp_5 (lv_at hl 4 rfl) ?_
    refine lv_iload_n hx hb dX7_heatOfRamp_7 rfl (lv_at hl 2 rfl) ?_
    refine lv_icmp_ge (tgt := 41) hx hb dX7_heatOfRamp_8 (by decide) (fun c1 => ?_) (fun c1 => ?_)
    · have hF := it_t hF c1
      exact hk _ _ H locs ls hF h (lv_sub hl [3] rfl)
    · have hF := it_f hF c1
      refine lv_aload_n hx hb dX7_heatOfRamp_11 rfl (lv_at hl 0 rfl) ?_
      refine lv_iload_n hx hb dX7_heatOfRamp_12 rfl (lv_at hl 1 rfl) ?_
      obtain ⟨r2, σ3, qr2, hF⟩ := bd_u hF
      refine bz_callV (rest := []) (st1 := [.int r2]) C h (As := [.int a1]) (o := some (.int r2)) (τ := σ3) (c_X7_peak (l := l) ka0 (res := (r2, σ3)) qr2) ka0 (by decide) (ci := 7) rfl (cwV 1 hts (bz_gV wd_21_0 wd_21_1 wd_21_2 wd_1_5 wd_21_3) rfl rfl rfl (by decide +kernel) ⟨Nat.le_of_ble_eq_true rfl, Nat.le_of_ble_eq_true rfl⟩) rfl hl.1 rfl (by decide) ⟨Nat.zero_le _, Nat.zero_le _⟩ dX7_heatOfRamp_13 rfl (fun H locs h => ?_)
      refine lv_iload_n hx hb dX7_heatOfRamp_16 rfl (lv_at hl 2 rfl) ?_
      refine lv_iload hx hb dX7_heatOfRamp_17 (lv_at hl 4 rfl) ?_
      obtain ⟨r4, σ5, qr4, hF⟩ := bd_u hF
      refine bz_callS (rest := []) (st1 := [.int r4]) C h (As := [.int r2, .int a2, .int v4]) (o := some (.int r4)) (τ := σ5) (c_X7_ramped (l := l)  (res := (r4, σ5)) qr4) (va_cwS 3 hts (bz_gS wd_21_4 wd_21_5 wd_1_5 wd_21_6) rfl rfl rfl (by decide +kernel) ⟨Nat.le_of_ble_eq_true rfl, Nat.le_of_ble_eq_true rfl⟩) rfl hl.1 rfl (by decide) ⟨Nat.zero_le _, Nat.zero_le _⟩ dX7_heatOfRamp_19 rfl (fun H locs h => ?_)
      refine lv_istore (lv' := [(5, .int r4), (0, .ref a0), (1, .int a1), (2, .int a2), (3, .int v3), (4, .int v4)]) hx hb dX7_heatOfRamp_22 hl (by decide) rfl (fun ls hl => ?_)
      refine lv_iload_n hx hb dX7_heatOfRamp_24 rfl (lv_at hl 4 rfl) ?_
      refine lv_iload hx hb dX7_heatOfRamp_25 (lv_at hl 0 rfl) ?_
      refine lv_iload hx hb dX7_heatOfRamp_27 (lv_at hl 0 rfl) ?_
      refine lv_imul hx hb dX7_heatOfRamp_29 ?_
      refine lv_bipush (v := 10) hx hb dX7_heatOfRamp_30 (by decide) ?_
      refine lv_idiv hx hb dX7_heatOfRamp_32 (by decide) ?_
      refine lv_iadd hx hb dX7_heatOfRamp_33 ?_
      refine lv_topi (fun x6 ex6 => ?_)
      have hF := lt_u hF x6 ex6
      refine lv_istore_n (lv' := [(3, .int x6), (5, .int r4), (0, .ref a0), (1, .int a1), (2, .int a2), (4, .int v4)]) hx hb dX7_heatOfRamp_34 rfl hl (by decide) rfl (fun ls hl => ?_)
      obtain ⟨x7, ex7⟩ : ∃ y : Int32, y = v4 + 1 := ⟨_, rfl⟩
      have hF := lt_u hF x7 ex7
      refine lv_iinc (v := x7) (lv' := [(4, .int x7), (3, .int x6), (5, .int r4), (0, .ref a0), (1, .int a1), (2, .int a2)]) hx hb dX7_heatOfRamp_35 hl (k := 5) rfl (by rw [ex7]; rfl) (by decide) rfl (fun ls hl => ?_)
      refine lv_goto (tgt := 5) hx hb dX7_heatOfRamp_38 (by decide) ?_
      exact ih _ _ _ H locs ls hF h (lv_sub hl [3, 4, 5, 1, 0] rfl) hk
set_option maxHeartbeats 4000000 in
set_option maxRecDepth 100000 in
theorem c_X7_heatOfRamp {l : Launch} {G : bz_G} {σ : bz_W} {a0 : Nat} {x1_ : Int32} {x2_ : Int32} (ka0 : bz_k G a0 = (8, 0)) {res : Int32 × bz_W} (hF : f_X7_heatOfRamp σ a0 x1_ x2_ = some res) : bz_M l yX7_heatOfRamp wz_X7_heatOfRamp 2 43 G σ [.ref a0, .int x1_, .int x2_] (some (.int res.1)) res.2 := by
  refine bz_mk (cc := cX7_heatOfRamp) (maxL := 6) (ret := (some .int)) (own := RX7) (by decide) rfl rfl (Nat.le_of_ble_eq_true rfl) ?_
  intro p e s m args below meth c ls C hlocks hr h hl
  have hx := C.1
  have hb := C.2.1
  have hts := C.2.2.2.2.1
  have hl : lv_has ls 6 [(0, .ref a0), (1, .int x1_), (2, .int x2_)] := hl
  obtain ⟨H, eH⟩ : ∃ y, y = s.heap := ⟨_, rfl⟩
  obtain ⟨locs, el⟩ : ∃ y : List Loc, y = [] := ⟨_, rfl⟩
  rw [← el, ← eH] at h ⊢
  unfold f_X7_heatOfRamp at hF
  refine lv_iconst (v := 0) hx hb dX7_heatOfRamp_0 (by decide) ?_
  refine lv_istore_n (lv' := [(3, .int 0), (0, .ref a0), (1, .int x1_), (2, .int x2_)]) hx hb dX7_heatOfRamp_1 rfl hl (by decide) rfl (fun ls hl => ?_)
  refine lv_iconst (v := 0) hx hb dX7_heatOfRamp_2 (by decide) ?_
  refine lv_istore (lv' := [(4, .int 0), (3, .int 0), (0, .ref a0), (1, .int x1_), (2, .int x2_)]) hx hb dX7_heatOfRamp_3 hl (by decide) rfl (fun ls hl => ?_)
  refine L_X7_heatOfRamp_L5 C hlocks hr ka0 _ _ _ _ H locs ls hF h (lv_sub hl [2, 3, 4, 1, 0] rfl) ?_
  intro x8 σ9 H locs ls hF h hl
  refine lv_iload_n hx hb dX7_heatOfRamp_41 rfl (lv_at hl 0 rfl) ?_
  exact bz_iret C h hlocks hr hF dX7_heatOfRamp_42
set_option maxHeartbeats 4000000 in
set_option maxRecDepth 100000 in
theorem c_X7_needed {l : Launch} {G : bz_G} {σ : bz_W} {a0 : Nat} {x1_ : Int32} (ka0 : bz_k G a0 = (8, 0)) {res : Int32 × bz_W} (hF : f_X7_needed σ a0 x1_ = some res) : bz_M l yX7_needed wz_X7_needed 3 68 G σ [.ref a0, .int x1_] (some (.int res.1)) res.2 := by
  refine bz_mk (cc := cX7_needed) (maxL := 2) (ret := (some .int)) (own := RX7) (by decide) rfl rfl (Nat.le_of_ble_eq_true rfl) ?_
  intro p e s m args below meth c ls C hlocks hr h hl
  have hx := C.1
  have hb := C.2.1
  have hts := C.2.2.2.2.1
  have hl : lv_has ls 2 [(0, .ref a0), (1, .int x1_)] := hl
  obtain ⟨H, eH⟩ : ∃ y, y = s.heap := ⟨_, rfl⟩
  obtain ⟨locs, el⟩ : ∃ y : List Loc, y = [] := ⟨_, rfl⟩
  rw [← el, ← eH] at h ⊢
  unfold f_X7_needed at hF
  refine lv_aload_n hx hb dX7_needed_0 rfl (lv_at hl 0 rfl) ?_
  refine lv_iload_n hx hb dX7_needed_1 rfl (lv_at hl 1 rfl) ?_
  refine lv_aload_n hx hb dX7_needed_2 rfl (lv_at hl 0 rfl) ?_
  refine lv_iload_n hx hb dX7_needed_3 rfl (lv_at hl 1 rfl) ?_
  refine lv_iconst (v := 1) hx hb dX7_needed_4 (by decide) ?_
  obtain ⟨r1, σ2, qr1, hF⟩ := bd_u hF
  refine bz_callV (rest := [.int x1_, .ref a0]) (st1 := [.int r1, .int x1_, .ref a0]) C h (As := [.int x1_, .int 1]) (o := some (.int r1)) (τ := σ2) (c_X7_of (l := l) ka0 (res := (r1, σ2)) qr1) ka0 (by decide) (ci := 7) rfl (cwV 2 hts (bz_gV wd_9_15 wd_9_16 wd_9_17 wd_1_5 wd_9_18) rfl rfl rfl (by decide +kernel) ⟨Nat.le_of_ble_eq_true rfl, Nat.le_of_ble_eq_true rfl⟩) rfl hl.1 rfl (Nat.le_of_ble_eq_true rfl) ⟨Nat.zero_le _, Nat.zero_le _⟩ dX7_needed_5 rfl (fun H locs h => ?_)
  obtain ⟨r3, σ4, qr3, hF⟩ := bd_u hF
  refine bz_callV (rest := []) (st1 := [.int r3]) C h (As := [.int x1_, .int r1]) (o := some (.int r3)) (τ := σ4) (c_X7_heatOfRamp (l := l) ka0 (res := (r3, σ4)) qr3) ka0 (by decide) (ci := 7) rfl (cwV 2 hts (bz_gV wd_20_20 wd_20_21 wd_20_22 wd_1_5 wd_20_23) rfl rfl rfl (by decide +kernel) ⟨Nat.le_of_ble_eq_true rfl, Nat.le_of_ble_eq_true rfl⟩) rfl hl.1 rfl (by decide) ⟨Nat.zero_le _, Nat.zero_le _⟩ dX7_needed_8 rfl (fun H locs h => ?_)
  exact bz_iret C h hlocks hr hF dX7_needed_11
set_option maxHeartbeats 4000000 in
set_option maxRecDepth 100000 in
theorem c_X7_credit {l : Launch} {G : bz_G} {σ : bz_W} {a0 : Nat} {x1_ : Int32} (ka0 : bz_k G a0 = (8, 0)) {res : Int32 × bz_W} (hF : f_X7_credit σ a0 x1_ = some res) : bz_M l yX7_credit wz_X7_credit 1 22 G σ [.ref a0, .int x1_] (some (.int res.1)) res.2 := by
  refine bz_mk (cc := cX7_credit) (maxL := 2) (ret := (some .int)) (own := RX7) (by decide) rfl rfl (Nat.le_of_ble_eq_true rfl) ?_
  intro p e s m args below meth c ls C hlocks hr h hl
  have hx := C.1
  have hb := C.2.1
  have hts := C.2.2.2.2.1
  have hl : lv_has ls 2 [(0, .ref a0), (1, .int x1_)] := hl
  obtain ⟨H, eH⟩ : ∃ y, y = s.heap := ⟨_, rfl⟩
  obtain ⟨locs, el⟩ : ∃ y : List Loc, y = [] := ⟨_, rfl⟩
  rw [← el, ← eH] at h ⊢
  unfold f_X7_credit at hF
  refine lv_aload_n hx hb dX7_credit_0 rfl (lv_at hl 0 rfl) ?_
  refine lv_iload_n hx hb dX7_credit_1 rfl (lv_at hl 1 rfl) ?_
  refine lv_iconst (v := 3) hx hb dX7_credit_2 (by decide) ?_
  obtain ⟨r1, σ2, qr1, hF⟩ := bd_u hF
  refine bz_callV (rest := []) (st1 := [.int r1]) C h (As := [.int x1_, .int 3]) (o := some (.int r1)) (τ := σ2) (c_X7_of (l := l) ka0 (res := (r1, σ2)) qr1) ka0 (by decide) (ci := 7) rfl (cwV 2 hts (bz_gV wd_9_15 wd_9_16 wd_9_17 wd_1_5 wd_9_18) rfl rfl rfl (by decide +kernel) ⟨Nat.le_of_ble_eq_true rfl, Nat.le_of_ble_eq_true rfl⟩) rfl hl.1 rfl (by decide) ⟨Nat.zero_le _, Nat.zero_le _⟩ dX7_credit_3 rfl (fun H locs h => ?_)
  refine lv_aload_n hx hb dX7_credit_6 rfl (lv_at hl 0 rfl) ?_
  refine lv_iload_n hx hb dX7_credit_7 rfl (lv_at hl 1 rfl) ?_
  refine lv_bipush (v := 6) hx hb dX7_credit_8 (by decide) ?_
  obtain ⟨r3, σ4, qr3, hF⟩ := bd_u hF
  refine bz_callV (rest := [.int r1]) (st1 := [.int r3, .int r1]) C h (As := [.int x1_, .int 6]) (o := some (.int r3)) (τ := σ4) (c_X7_of (l := l) ka0 (res := (r3, σ4)) qr3) ka0 (by decide) (ci := 7) rfl (cwV 2 hts (bz_gV wd_9_15 wd_9_16 wd_9_17 wd_1_5 wd_9_18) rfl rfl rfl (by decide +kernel) ⟨Nat.le_of_ble_eq_true rfl, Nat.le_of_ble_eq_true rfl⟩) rfl hl.1 rfl (Nat.le_of_ble_eq_true rfl) ⟨Nat.zero_le _, Nat.zero_le _⟩ dX7_credit_10 rfl (fun H locs h => ?_)
  refine lv_isub hx hb dX7_credit_13 ?_
  exact bz_iret C h hlocks hr hF dX7_credit_14
set_option maxHeartbeats 4000000 in
set_option maxRecDepth 100000 in
theorem c_X7_rate {l : Launch} {G : bz_G} {σ : bz_W} {a0 : Nat} {x1_ : Int32} (ka0 : bz_k G a0 = (8, 0)) {res : Int32 × bz_W} (hF : f_X7_rate σ a0 x1_ = some res) : bz_M l yX7_rate wz_X7_rate 0 0 G σ [.ref a0, .int x1_] (some (.int res.1)) res.2 := by
  refine bz_mk (cc := cX7_rate) (maxL := 2) (ret := (some .int)) (own := RX7) (by decide) rfl rfl (Nat.le_of_ble_eq_true rfl) ?_
  intro p e s m args below meth c ls C hlocks hr h hl
  have hx := C.1
  have hb := C.2.1
  have hts := C.2.2.2.2.1
  have hl : lv_has ls 2 [(0, .ref a0), (1, .int x1_)] := hl
  obtain ⟨H, eH⟩ : ∃ y, y = s.heap := ⟨_, rfl⟩
  obtain ⟨locs, el⟩ : ∃ y : List Loc, y = [] := ⟨_, rfl⟩
  rw [← el, ← eH] at h ⊢
  unfold f_X7_rate at hF
  refine lv_iload_n hx hb dX7_rate_0 rfl (lv_at hl 1 rfl) ?_
  obtain ⟨j3, ej3, hF⟩ := lt_j hF
  have hj3 : ∀ (y1 : Int32) (σ2 : bz_W) (H : Heap) (locs : List Loc) (ls : Array Slot), j3 y1 σ2 = some res → bz_H G s σ2 H locs → lv_has ls 2 [(0, .ref a0)] → W p l e ({ frames := 0, cells := 0, slots := 0, locals := 0 } : Room) s m args below meth c H locs 0 0 (MQ below (bz_Qc G (some (.int res.1)) res.2) args s 0 0 (bz_A G)) (F0 m 11 ls [.int y1]) := by
      intro y1 σ2 H locs ls hF h hl
      subst ej3
      refine lv_aload_n hx hb dX7_rate_11 rfl (lv_at hl 0 rfl) ?_
      refine gf_7_0 C h ka0 iz_X7 (List.mem_cons_of_mem _ wd_4_13) dX7_rate_12 (fun k4 => ?_)
      refine lv_iconst (v := 3) hx hb dX7_rate_15 (by decide) ?_
      refine bz_iald C h k4 (by decide) (kx := 3) (bz_cl 3 (by decide)) dX7_rate_16 ?_
      refine lv_iconst (v := 1) hx hb dX7_rate_17 (by decide) ?_
      refine lv_icmp_ne (tgt := 26) hx hb dX7_rate_18 (by decide) (fun c5 => ?_) (fun c5 => ?_)
      · have hF := it_f hF c5
        refine lv_iconst (v := 0) hx hb dX7_rate_26 (by decide) ?_
        refine lv_iadd hx hb dX7_rate_27 ?_
        exact bz_iret C h hlocks hr hF dX7_rate_28
      · have hF := it_t hF c5
        refine lv_bipush (v := 30) hx hb dX7_rate_21 (by decide) ?_
        refine lv_goto (tgt := 27) hx hb dX7_rate_23 (by decide) ?_
        refine lv_iadd hx hb dX7_rate_27 ?_
        exact bz_iret C h hlocks hr hF dX7_rate_28
  refine lv_if_eq (tgt := 9) hx hb dX7_rate_1 (by decide) (fun c6 => ?_) (fun c6 => ?_)
  · have hF := it_t hF c6
    refine lv_bipush (v := 20) hx hb dX7_rate_9 (by decide) ?_
    exact hj3 _ _ H locs ls hF h (lv_sub hl [0] rfl)
  · have hF := it_f hF c6
    refine lv_bipush (v := 40) hx hb dX7_rate_4 (by decide) ?_
    refine lv_goto (tgt := 11) hx hb dX7_rate_6 (by decide) ?_
    exact hj3 _ _ H locs ls hF h (lv_sub hl [0] rfl)
set_option maxHeartbeats 4000000 in
set_option maxRecDepth 100000 in
theorem c_X7_waitedOf {l : Launch} {G : bz_G} {σ : bz_W} {a0 : Nat} {x1_ : Int32} (ka0 : bz_k G a0 = (8, 0)) {res : Int32 × bz_W} (hF : f_X7_waitedOf σ a0 x1_ = some res) : bz_M l yX7_waitedOf wz_X7_waitedOf 1 22 G σ [.ref a0, .int x1_] (some (.int res.1)) res.2 := by
  refine bz_mk (cc := cX7_waitedOf) (maxL := 2) (ret := (some .int)) (own := RX7) (by decide) rfl rfl (Nat.le_of_ble_eq_true rfl) ?_
  intro p e s m args below meth c ls C hlocks hr h hl
  have hx := C.1
  have hb := C.2.1
  have hts := C.2.2.2.2.1
  have hl : lv_has ls 2 [(0, .ref a0), (1, .int x1_)] := hl
  obtain ⟨H, eH⟩ : ∃ y, y = s.heap := ⟨_, rfl⟩
  obtain ⟨locs, el⟩ : ∃ y : List Loc, y = [] := ⟨_, rfl⟩
  rw [← el, ← eH] at h ⊢
  unfold f_X7_waitedOf at hF
  refine lv_aload_n hx hb dX7_waitedOf_0 rfl (lv_at hl 0 rfl) ?_
  refine gf_7_0 C h ka0 iz_X7 (List.mem_cons_of_mem _ wd_4_13) dX7_waitedOf_1 (fun k1 => ?_)
  refine lv_iconst (v := 1) hx hb dX7_waitedOf_4 (by decide) ?_
  refine bz_iald C h k1 (by decide) (kx := 1) (bz_cl 1 (by decide)) dX7_waitedOf_5 ?_
  refine lv_aload_n hx hb dX7_waitedOf_6 rfl (lv_at hl 0 rfl) ?_
  refine lv_iload_n hx hb dX7_waitedOf_7 rfl (lv_at hl 1 rfl) ?_
  refine lv_bipush (v := 9) hx hb dX7_waitedOf_8 (by decide) ?_
  obtain ⟨r2, σ3, qr2, hF⟩ := bd_u hF
  refine bz_callV (rest := [.int (σ.1 (σ.2 a0 0) 1)]) (st1 := [.int r2, .int (σ.1 (σ.2 a0 0) 1)]) C h (As := [.int x1_, .int 9]) (o := some (.int r2)) (τ := σ3) (c_X7_of (l := l) ka0 (res := (r2, σ3)) qr2) ka0 (by decide) (ci := 7) rfl (cwV 2 hts (bz_gV wd_9_15 wd_9_16 wd_9_17 wd_1_5 wd_9_18) rfl rfl rfl (by decide +kernel) ⟨Nat.le_of_ble_eq_true rfl, Nat.le_of_ble_eq_true rfl⟩) rfl hl.1 rfl (Nat.le_of_ble_eq_true rfl) ⟨Nat.zero_le _, Nat.zero_le _⟩ dX7_waitedOf_10 rfl (fun H locs h => ?_)
  refine lv_isub hx hb dX7_waitedOf_13 ?_
  exact bz_iret C h hlocks hr hF dX7_waitedOf_14
set_option maxHeartbeats 4000000 in
set_option maxRecDepth 100000 in
theorem c_X7_isAhead {l : Launch} {G : bz_G} {σ : bz_W} {a0 : Nat} {x1_ : Int32} {x2_ : Int32} (ka0 : bz_k G a0 = (8, 0)) {res : Int32 × bz_W} (hF : f_X7_isAhead σ a0 x1_ x2_ = some res) : bz_M l yX7_isAhead wz_X7_isAhead 2 43 G σ [.ref a0, .int x1_, .int x2_] (some (.int res.1)) res.2 := by
  refine bz_mk (cc := cX7_isAhead) (maxL := 5) (ret := (some .boolean)) (own := RX7) (by decide) rfl rfl (Nat.le_of_ble_eq_true rfl) ?_
  intro p e s m args below meth c ls C hlocks hr h hl
  have hx := C.1
  have hb := C.2.1
  have hts := C.2.2.2.2.1
  have hl : lv_has ls 5 [(0, .ref a0), (1, .int x1_), (2, .int x2_)] := hl
  obtain ⟨H, eH⟩ : ∃ y, y = s.heap := ⟨_, rfl⟩
  obtain ⟨locs, el⟩ : ∃ y : List Loc, y = [] := ⟨_, rfl⟩
  rw [← el, ← eH] at h ⊢
  unfold f_X7_isAhead at hF
  refine lv_aload_n hx hb dX7_isAhead_0 rfl (lv_at hl 0 rfl) ?_
  refine lv_iload_n hx hb dX7_isAhead_1 rfl (lv_at hl 1 rfl) ?_
  refine lv_iconst (v := 4) hx hb dX7_isAhead_2 (by decide) ?_
  obtain ⟨r1, σ2, qr1, hF⟩ := bd_u hF
  refine bz_callV (rest := []) (st1 := [.int r1]) C h (As := [.int x1_, .int 4]) (o := some (.int r1)) (τ := σ2) (c_X7_of (l := l) ka0 (res := (r1, σ2)) qr1) ka0 (by decide) (ci := 7) rfl (cwV 2 hts (bz_gV wd_9_15 wd_9_16 wd_9_17 wd_1_5 wd_9_18) rfl rfl rfl (by decide +kernel) ⟨Nat.le_of_ble_eq_true rfl, Nat.le_of_ble_eq_true rfl⟩) rfl hl.1 rfl (by decide) ⟨Nat.zero_le _, Nat.zero_le _⟩ dX7_isAhead_3 rfl (fun H locs h => ?_)
  refine lv_aload_n hx hb dX7_isAhead_6 rfl (lv_at hl 0 rfl) ?_
  refine lv_iload_n hx hb dX7_isAhead_7 rfl (lv_at hl 1 rfl) ?_
  obtain ⟨r3, σ4, qr3, hF⟩ := bd_u hF
  refine bz_callV (rest := [.int r1]) (st1 := [.int r3, .int r1]) C h (As := [.int x1_]) (o := some (.int r3)) (τ := σ4) (c_X7_waitedOf (l := l) ka0 (res := (r3, σ4)) qr3) ka0 (by decide) (ci := 7) rfl (cwV 1 hts (bz_gV wd_15_6 wd_15_7 wd_15_8 wd_1_5 wd_15_9) rfl rfl rfl (by decide +kernel) ⟨Nat.le_of_ble_eq_true rfl, Nat.le_of_ble_eq_true rfl⟩) rfl hl.1 rfl (Nat.le_of_ble_eq_true rfl) ⟨Nat.zero_le _, Nat.zero_le _⟩ dX7_isAhead_8 rfl (fun H locs h => ?_)
  refine lv_bipush (v := 10) hx hb dX7_isAhead_11 (by decide) ?_
  refine lv_idiv hx hb dX7_isAhead_13 (by decide) ?_
  refine lv_iadd hx hb dX7_isAhead_14 ?_
  refine lv_topi (fun x5 ex5 => ?_)
  have hF := lt_u hF x5 ex5
  refine lv_istore_n (lv' := [(3, .int x5), (0, .ref a0), (1, .int x1_), (2, .int x2_)]) hx hb dX7_isAhead_15 rfl hl (by decide) rfl (fun ls hl => ?_)
  refine lv_aload_n hx hb dX7_isAhead_16 rfl (lv_at hl 1 rfl) ?_
  refine lv_iload_n hx hb dX7_isAhead_17 rfl (lv_at hl 3 rfl) ?_
  refine lv_iconst (v := 4) hx hb dX7_isAhead_18 (by decide) ?_
  obtain ⟨r6, σ7, qr6, hF⟩ := bd_u hF
  refine bz_callV (rest := []) (st1 := [.int r6]) C h (As := [.int x2_, .int 4]) (o := some (.int r6)) (τ := σ7) (c_X7_of (l := l) ka0 (res := (r6, σ7)) qr6) ka0 (by decide) (ci := 7) rfl (cwV 2 hts (bz_gV wd_9_15 wd_9_16 wd_9_17 wd_1_5 wd_9_18) rfl rfl rfl (by decide +kernel) ⟨Nat.le_of_ble_eq_true rfl, Nat.le_of_ble_eq_true rfl⟩) rfl hl.1 rfl (by decide) ⟨Nat.zero_le _, Nat.zero_le _⟩ dX7_isAhead_19 rfl (fun H locs h => ?_)
  refine lv_aload_n hx hb dX7_isAhead_22 rfl (lv_at hl 1 rfl) ?_
  refine lv_iload_n hx hb dX7_isAhead_23 rfl (lv_at hl 3 rfl) ?_
  obtain ⟨r8, σ9, qr8, hF⟩ := bd_u hF
  refine bz_callV (rest := [.int r6]) (st1 := [.int r8, .int r6]) C h (As := [.int x2_]) (o := some (.int r8)) (τ := σ9) (c_X7_waitedOf (l := l) ka0 (res := (r8, σ9)) qr8) ka0 (by decide) (ci := 7) rfl (cwV 1 hts (bz_gV wd_15_6 wd_15_7 wd_15_8 wd_1_5 wd_15_9) rfl rfl rfl (by decide +kernel) ⟨Nat.le_of_ble_eq_true rfl, Nat.le_of_ble_eq_true rfl⟩) rfl hl.1 rfl (Nat.le_of_ble_eq_true rfl) ⟨Nat.zero_le _, Nat.zero_le _⟩ dX7_isAhead_24 rfl (fun H locs h => ?_)
  refine lv_bipush (v := 10) hx hb dX7_isAhead_27 (by decide) ?_
  refine lv_idiv hx hb dX7_isAhead_29 (by decide) ?_
  refine lv_iadd hx hb dX7_isAhead_30 ?_
  refine lv_topi (fun x10 ex10 => ?_)
  have hF := lt_u hF x10 ex10
  refine lv_istore (lv' := [(4, .int x10), (3, .int x5), (0, .ref a0), (1, .int x1_), (2, .int x2_)]) hx hb dX7_isAhead_31 hl (by decide) rfl (fun ls hl => ?_)
  refine lv_iload_n hx hb dX7_isAhead_33 rfl (lv_at hl 1 rfl) ?_
  refine lv_iload hx hb dX7_isAhead_34 (lv_at hl 0 rfl) ?_
  refine lv_icmp_eq (tgt := 51) hx hb dX7_isAhead_36 (by decide) (fun c11 => ?_) (fun c11 => ?_)
  · have hF := it_t hF c11
    refine lv_aload_n hx hb dX7_isAhead_51 rfl (lv_at hl 2 rfl) ?_
    refine lv_iload_n hx hb dX7_isAhead_52 rfl (lv_at hl 3 rfl) ?_
    obtain ⟨r12, σ13, qr12, hF⟩ := bd_u hF
    refine bz_callV (rest := []) (st1 := [.int r12]) C h (As := [.int x1_]) (o := some (.int r12)) (τ := σ13) (c_X7_waitedOf (l := l) ka0 (res := (r12, σ13)) qr12) ka0 (by decide) (ci := 7) rfl (cwV 1 hts (bz_gV wd_15_6 wd_15_7 wd_15_8 wd_1_5 wd_15_9) rfl rfl rfl (by decide +kernel) ⟨Nat.le_of_ble_eq_true rfl, Nat.le_of_ble_eq_true rfl⟩) rfl hl.1 rfl (by decide) ⟨Nat.zero_le _, Nat.zero_le _⟩ dX7_isAhead_53 rfl (fun H locs h => ?_)
    refine lv_aload_n hx hb dX7_isAhead_56 rfl (lv_at hl 2 rfl) ?_
    refine lv_iload_n hx hb dX7_isAhead_57 rfl (lv_at hl 4 rfl) ?_
    obtain ⟨r14, σ15, qr14, hF⟩ := bd_u hF
    refine bz_callV (rest := [.int r12]) (st1 := [.int r14, .int r12]) C h (As := [.int x2_]) (o := some (.int r14)) (τ := σ15) (c_X7_waitedOf (l := l) ka0 (res := (r14, σ15)) qr14) ka0 (by decide) (ci := 7) rfl (cwV 1 hts (bz_gV wd_15_6 wd_15_7 wd_15_8 wd_1_5 wd_15_9) rfl rfl rfl (by decide +kernel) ⟨Nat.le_of_ble_eq_true rfl, Nat.le_of_ble_eq_true rfl⟩) rfl hl.1 rfl (Nat.le_of_ble_eq_true rfl) ⟨Nat.zero_le _, Nat.zero_le _⟩ dX7_isAhead_58 rfl (fun H locs h => ?_)
    refine lv_icmp_eq (tgt := 85) hx hb dX7_isAhead_61 (by decide) (fun c16 => ?_) (fun c16 => ?_)
    · have hF := it_t hF c16
      refine lv_iload_n hx hb dX7_isAhead_85 rfl (lv_at hl 3 rfl) ?_
      refine lv_iload_n hx hb dX7_isAhead_86 rfl (lv_at hl 4 rfl) ?_
      refine lv_icmp_ge (tgt := 94) hx hb dX7_isAhead_87 (by decide) (fun c17 => ?_) (fun c17 => ?_)
      · have hF := it_t hF c17
        refine lv_iconst (v := 0) hx hb dX7_isAhead_94 (by decide) ?_
        exact bz_zret C h hlocks hr (by decide) hF dX7_isAhead_95
      · have hF := it_f hF c17
        refine lv_iconst (v := 1) hx hb dX7_isAhead_90 (by decide) ?_
        refine lv_goto (tgt := 95) hx hb dX7_isAhead_91 (by decide) ?_
        exact bz_zret C h hlocks hr (by decide) hF dX7_isAhead_95
    · have hF := it_f hF c16
      refine lv_aload_n hx hb dX7_isAhead_64 rfl (lv_at hl 2 rfl) ?_
      refine lv_iload_n hx hb dX7_isAhead_65 rfl (lv_at hl 3 rfl) ?_
      obtain ⟨r18, σ19, qr18, hF⟩ := bd_u hF
      refine bz_callV (rest := []) (st1 := [.int r18]) C h (As := [.int x1_]) (o := some (.int r18)) (τ := σ19) (c_X7_waitedOf (l := l) ka0 (res := (r18, σ19)) qr18) ka0 (by decide) (ci := 7) rfl (cwV 1 hts (bz_gV wd_15_6 wd_15_7 wd_15_8 wd_1_5 wd_15_9) rfl rfl rfl (by decide +kernel) ⟨Nat.le_of_ble_eq_true rfl, Nat.le_of_ble_eq_true rfl⟩) rfl hl.1 rfl (by decide) ⟨Nat.zero_le _, Nat.zero_le _⟩ dX7_isAhead_66 rfl (fun H locs h => ?_)
      refine lv_aload_n hx hb dX7_isAhead_69 rfl (lv_at hl 2 rfl) ?_
      refine lv_iload_n hx hb dX7_isAhead_70 rfl (lv_at hl 4 rfl) ?_
      obtain ⟨r20, σ21, qr20, hF⟩ := bd_u hF
      refine bz_callV (rest := [.int r18]) (st1 := [.int r20, .int r18]) C h (As := [.int x2_]) (o := some (.int r20)) (τ := σ21) (c_X7_waitedOf (l := l) ka0 (res := (r20, σ21)) qr20) ka0 (by decide) (ci := 7) rfl (cwV 1 hts (bz_gV wd_15_6 wd_15_7 wd_15_8 wd_1_5 wd_15_9) rfl rfl rfl (by decide +kernel) ⟨Nat.le_of_ble_eq_true rfl, Nat.le_of_ble_eq_true rfl⟩) rfl hl.1 rfl (Nat.le_of_ble_eq_true rfl) ⟨Nat.zero_le _, Nat.zero_le _⟩ dX7_isAhead_71 rfl (fun H locs h => ?_)
      refine lv_icmp_le (tgt := 81) hx hb dX7_isAhead_74 (by decide) (fun c22 => ?_) (fun c22 => ?_)
      · have hF := it_t hF c22
        refine lv_iconst (v := 0) hx hb dX7_isAhead_81 (by decide) ?_
        refine lv_goto (tgt := 95) hx hb dX7_isAhead_82 (by decide) ?_
        exact bz_zret C h hlocks hr (by decide) hF dX7_isAhead_95
      · have hF := it_f hF c22
        refine lv_iconst (v := 1) hx hb dX7_isAhead_77 (by decide) ?_
        refine lv_goto (tgt := 95) hx hb dX7_isAhead_78 (by decide) ?_
        exact bz_zret C h hlocks hr (by decide) hF dX7_isAhead_95
  · have hF := it_f hF c11
    refine lv_iload_n hx hb dX7_isAhead_39 rfl (lv_at hl 1 rfl) ?_
    refine lv_iload hx hb dX7_isAhead_40 (lv_at hl 0 rfl) ?_
    refine lv_icmp_le (tgt := 49) hx hb dX7_isAhead_42 (by decide) (fun c23 => ?_) (fun c23 => ?_)
    · have hF := it_t hF c23
      refine lv_iconst (v := 0) hx hb dX7_isAhead_49 (by decide) ?_
      exact bz_zret C h hlocks hr (by decide) hF dX7_isAhead_50
    · have hF := it_f hF c23
      refine lv_iconst (v := 1) hx hb dX7_isAhead_45 (by decide) ?_
      refine lv_goto (tgt := 50) hx hb dX7_isAhead_46 (by decide) ?_
      exact bz_zret C h hlocks hr (by decide) hF dX7_isAhead_50
set_option maxHeartbeats 4000000 in
set_option maxRecDepth 100000 in
theorem c_X7_waits {l : Launch} {G : bz_G} {σ : bz_W} {a0 : Nat} {x1_ : Int32} (ka0 : bz_k G a0 = (8, 0)) {res : Int32 × bz_W} (hF : f_X7_waits σ a0 x1_ = some res) : bz_M l yX7_waits wz_X7_waits 1 22 G σ [.ref a0, .int x1_] (some (.int res.1)) res.2 := by
  refine bz_mk (cc := cX7_waits) (maxL := 2) (ret := (some .boolean)) (own := RX7) (by decide) rfl rfl (Nat.le_of_ble_eq_true rfl) ?_
  intro p e s m args below meth c ls C hlocks hr h hl
  have hx := C.1
  have hb := C.2.1
  have hts := C.2.2.2.2.1
  have hl : lv_has ls 2 [(0, .ref a0), (1, .int x1_)] := hl
  obtain ⟨H, eH⟩ : ∃ y, y = s.heap := ⟨_, rfl⟩
  obtain ⟨locs, el⟩ : ∃ y : List Loc, y = [] := ⟨_, rfl⟩
  rw [← el, ← eH] at h ⊢
  unfold f_X7_waits at hF
  refine lv_aload_n hx hb dX7_waits_0 rfl (lv_at hl 0 rfl) ?_
  refine lv_iload_n hx hb dX7_waits_1 rfl (lv_at hl 1 rfl) ?_
  refine lv_iconst (v := 5) hx hb dX7_waits_2 (by decide) ?_
  obtain ⟨r1, σ2, qr1, hF⟩ := bd_u hF
  refine bz_callV (rest := []) (st1 := [.int r1]) C h (As := [.int x1_, .int 5]) (o := some (.int r1)) (τ := σ2) (c_X7_of (l := l) ka0 (res := (r1, σ2)) qr1) ka0 (by decide) (ci := 7) rfl (cwV 2 hts (bz_gV wd_9_15 wd_9_16 wd_9_17 wd_1_5 wd_9_18) rfl rfl rfl (by decide +kernel) ⟨Nat.le_of_ble_eq_true rfl, Nat.le_of_ble_eq_true rfl⟩) rfl hl.1 rfl (by decide) ⟨Nat.zero_le _, Nat.zero_le _⟩ dX7_waits_3 rfl (fun H locs h => ?_)
  refine lv_iconst (v := 1) hx hb dX7_waits_6 (by decide) ?_
  refine lv_icmp_ne (tgt := 14) hx hb dX7_waits_7 (by decide) (fun c3 => ?_) (fun c3 => ?_)
  · have hF := it_f hF c3
    refine lv_iconst (v := 0) hx hb dX7_waits_14 (by decide) ?_
    exact bz_zret C h hlocks hr (by decide) hF dX7_waits_15
  · have hF := it_t hF c3
    refine lv_iconst (v := 1) hx hb dX7_waits_10 (by decide) ?_
    refine lv_goto (tgt := 15) hx hb dX7_waits_11 (by decide) ?_
    exact bz_zret C h hlocks hr (by decide) hF dX7_waits_15
set_option maxHeartbeats 4000000 in
set_option maxRecDepth 100000 in
theorem L_X7_placeOf_L4 {p : Program} {l : Launch} {e : Env} {s : State} {m : MethodId} {args : Array Value} {below : List Frame} {meth : Method} {c : Code} {G : bz_G} (C : bz_C p s m c args cX7_placeOf 4 RX7 wz_X7_placeOf G) (hlocks : meth.locks = false) (hr : meth.sig.returnType = (some .int)) {a0 : Nat} {a1 : Int32} (ka0 : bz_k G a0 = (8, 0)) {k : Int32 → bz_W → Option (Int32 × bz_W)} {res : Int32 × bz_W} : ∀ (n : Nat) (v2 : Int32) (v3 : Int32) (σ : bz_W) (H : Heap) (locs : List Loc) (ls : Array Slot), f_X7_placeOf_L4 a0 a1 k n v2 v3 σ = some res → bz_H G s σ H locs → lv_has ls 4 [(0, .ref a0), (1, .int a1), (2, .int v2), (3, .int v3)] → (∀ (w2 : Int32) (σ : bz_W) (H : Heap) (locs : List Loc) (ls : Array Slot), k w2 σ = some res → bz_H G s σ H locs → lv_has ls 4 [(2, .int w2)] → W p l e ({ frames := 3, cells := 0, slots := 0, locals := 67 } : Room) s m args below meth c H locs 0 0 (MQ below (bz_Qc G (some (.int res.1)) res.2) args s 0 0 (bz_A G)) (F0 m 50 ls [])) → W p l e ({ frames := 3, cells := 0, slots := 0, locals := 67 } : Room) s m args below meth c H locs 0 0 (MQ below (bz_Qc G (some (.int res.1)) res.2) args s 0 0 (bz_A G)) (F0 m 4 ls []) := by
  have hx := C.1
  have hb := C.2.1
  have hts := C.2.2.2.2.1
  intro n
  induction n with
  | zero =>
    intro v2 v3 σ H locs ls hF
    exact absurd hF (by simp [f_X7_placeOf_L4])
  | succ n ih =>
    intro v2 v3 σ H locs ls hF h hl hk
    rw [f_X7_placeOf_L4] at hF
    refine lv_iload_n hx hb dX7_placeOf_4 rfl (lv_at hl 3 rfl) ?_
    refine lv_aload_n hx hb dX7_placeOf_5 rfl (lv_at hl 0 rfl) ?_
    refine gf_7_0 C h ka0 iz_X7 (List.mem_cons_of_mem _ wd_4_13) dX7_placeOf_6 (fun k1 => ?_)
    refine lv_iconst (v := 0) hx hb dX7_placeOf_9 (by decide) ?_
    refine bz_iald C h k1 (by decide) (kx := 0) (bz_cl 0 (by decide)) dX7_placeOf_10 ?_
    refine lv_icmp_ge (tgt := 50) hx hb dX7_placeOf_11 (by decide) (fun c2 => ?_) (fun c2 => ?_)
    · have hF := it_t hF c2
      exact hk _ _ H locs ls hF h (lv_sub hl [2] rfl)
    · have hF := it_f hF c2
      refine lv_iload_n hx hb dX7_placeOf_14 rfl (lv_at hl 2 rfl) ?_
      refine lv_iload_n hx hb dX7_placeOf_15 rfl (lv_at hl 3 rfl) ?_
      refine lv_iload_n hx hb dX7_placeOf_16 rfl (lv_at hl 1 rfl) ?_
      obtain ⟨j5, ej5, hF⟩ := lt_j hF
      have hj5 : ∀ (y3 : Int32) (σ4 : bz_W) (H : Heap) (locs : List Loc) (ls : Array Slot), j5 y3 σ4 = some res → bz_H G s σ4 H locs → lv_has ls 4 [(0, .ref a0), (1, .int a1), (3, .int v3)] → W p l e ({ frames := 3, cells := 0, slots := 0, locals := 67 } : Room) s m args below meth c H locs 0 0 (MQ below (bz_Qc G (some (.int res.1)) res.2) args s 0 0 (bz_A G)) (F0 m 42 ls [.int y3, .int v2]) := by
          intro y3 σ4 H locs ls hF h hl
          subst ej5
          refine lv_iadd hx hb dX7_placeOf_42 ?_
          refine lv_topi (fun x6 ex6 => ?_)
          have hF := lt_u hF x6 ex6
          refine lv_istore_n (lv' := [(2, .int x6), (0, .ref a0), (1, .int a1), (3, .int v3)]) hx hb dX7_placeOf_43 rfl hl (by decide) rfl (fun ls hl => ?_)
          obtain ⟨x7, ex7⟩ : ∃ y : Int32, y = v3 + 1 := ⟨_, rfl⟩
          have hF := lt_u hF x7 ex7
          refine lv_iinc (v := x7) (lv' := [(3, .int x7), (2, .int x6), (0, .ref a0), (1, .int a1)]) hx hb dX7_placeOf_44 hl (k := 3) rfl (by rw [ex7]; rfl) (by decide) rfl (fun ls hl => ?_)
          refine lv_goto (tgt := 4) hx hb dX7_placeOf_47 (by decide) ?_
          exact ih _ _ _ H locs ls hF h (lv_sub hl [2, 3, 1, 0] rfl) hk
      obtain ⟨j9, ej9, hF⟩ := lt_j hF
      have hj9 : ∀ (σ8 : bz_W) (H : Heap) (locs : List Loc) (ls : Array Slot), j9 σ8 = some res → bz_H G s σ8 H locs → lv_has ls 4 [(0, .ref a0), (1, .int a1), (3, .int v3)] → W p l e ({ frames := 3, cells := 0, slots := 0, locals := 67 } : Room) s m args below meth c H locs 0 0 (MQ below (bz_Qc G (some (.int res.1)) res.2) args s 0 0 (bz_A G)) (F0 m 41 ls [.int v2]) := by
          intro σ8 H locs ls hF h hl
          subst ej9
          refine lv_iconst (v := 0) hx hb dX7_placeOf_41 (by decide) ?_
          exact hj5 _ _ H locs ls hF h (lv_sub hl [0, 1, 2] rfl)
      refine lv_icmp_eq (tgt := 41) hx hb dX7_placeOf_17 (by decide) (fun c10 => ?_) (fun c10 => ?_)
      · have hF := it_t hF c10
        exact hj9 _ H locs ls hF h (lv_sub hl [0, 1, 3] rfl)
      · have hF := it_f hF c10
        refine lv_aload_n hx hb dX7_placeOf_20 rfl (lv_at hl 0 rfl) ?_
        refine lv_iload_n hx hb dX7_placeOf_21 rfl (lv_at hl 3 rfl) ?_
        obtain ⟨r11, σ12, qr11, hF⟩ := bd_u hF
        refine bz_callV (rest := [.int v2]) (st1 := [.int r11, .int v2]) C h (As := [.int v3]) (o := some (.int r11)) (τ := σ12) (c_X7_waits (l := l) ka0 (res := (r11, σ12)) qr11) ka0 (by decide) (ci := 7) rfl (cwV 1 hts (bz_gV wd_14_22 wd_14_23 wd_15_0 wd_1_5 wd_15_1) rfl rfl rfl (by decide +kernel) ⟨Nat.le_of_ble_eq_true rfl, Nat.le_of_ble_eq_true rfl⟩) rfl hl.1 rfl (Nat.le_of_ble_eq_true rfl) ⟨Nat.zero_le _, Nat.zero_le _⟩ dX7_placeOf_22 rfl (fun H locs h => ?_)
        refine lv_if_eq (tgt := 41) hx hb dX7_placeOf_25 (by decide) (fun c13 => ?_) (fun c13 => ?_)
        · have hF := it_t hF c13
          exact hj9 _ H locs ls hF h (lv_sub hl [0, 1, 3] rfl)
        · have hF := it_f hF c13
          refine lv_aload_n hx hb dX7_placeOf_28 rfl (lv_at hl 0 rfl) ?_
          refine lv_iload_n hx hb dX7_placeOf_29 rfl (lv_at hl 3 rfl) ?_
          refine lv_iload_n hx hb dX7_placeOf_30 rfl (lv_at hl 1 rfl) ?_
          obtain ⟨r14, σ15, qr14, hF⟩ := bd_u hF
          refine bz_callV (rest := [.int v2]) (st1 := [.int r14, .int v2]) C h (As := [.int v3, .int a1]) (o := some (.int r14)) (τ := σ15) (c_X7_isAhead (l := l) ka0 (res := (r14, σ15)) qr14) ka0 (by decide) (ci := 7) rfl (cwV 2 hts (bz_gV wd_15_2 wd_15_3 wd_15_4 wd_1_5 wd_15_5) rfl rfl rfl (by decide +kernel) ⟨Nat.le_of_ble_eq_true rfl, Nat.le_of_ble_eq_true rfl⟩) rfl hl.1 rfl (Nat.le_of_ble_eq_true rfl) ⟨Nat.zero_le _, Nat.zero_le _⟩ dX7_placeOf_31 rfl (fun H locs h => ?_)
          refine lv_if_eq (tgt := 41) hx hb dX7_placeOf_34 (by decide) (fun c16 => ?_) (fun c16 => ?_)
          · have hF := it_t hF c16
            exact hj9 _ H locs ls hF h (lv_sub hl [0, 1, 3] rfl)
          · have hF := it_f hF c16
            refine lv_iconst (v := 1) hx hb dX7_placeOf_37 (by decide) ?_
            refine lv_goto (tgt := 42) hx hb dX7_placeOf_38 (by decide) ?_
            exact hj5 _ _ H locs ls hF h (lv_sub hl [0, 1, 3] rfl)
set_option maxHeartbeats 4000000 in
set_option maxRecDepth 100000 in
theorem c_X7_placeOf {l : Launch} {G : bz_G} {σ : bz_W} {a0 : Nat} {x1_ : Int32} (ka0 : bz_k G a0 = (8, 0)) {res : Int32 × bz_W} (hF : f_X7_placeOf σ a0 x1_ = some res) : bz_M l yX7_placeOf wz_X7_placeOf 3 67 G σ [.ref a0, .int x1_] (some (.int res.1)) res.2 := by
  refine bz_mk (cc := cX7_placeOf) (maxL := 4) (ret := (some .int)) (own := RX7) (by decide) rfl rfl (Nat.le_of_ble_eq_true rfl) ?_
  intro p e s m args below meth c ls C hlocks hr h hl
  have hx := C.1
  have hb := C.2.1
  have hts := C.2.2.2.2.1
  have hl : lv_has ls 4 [(0, .ref a0), (1, .int x1_)] := hl
  obtain ⟨H, eH⟩ : ∃ y, y = s.heap := ⟨_, rfl⟩
  obtain ⟨locs, el⟩ : ∃ y : List Loc, y = [] := ⟨_, rfl⟩
  rw [← el, ← eH] at h ⊢
  unfold f_X7_placeOf at hF
  refine lv_iconst (v := 0) hx hb dX7_placeOf_0 (by decide) ?_
  refine lv_istore_n (lv' := [(2, .int 0), (0, .ref a0), (1, .int x1_)]) hx hb dX7_placeOf_1 rfl hl (by decide) rfl (fun ls hl => ?_)
  refine lv_iconst (v := 0) hx hb dX7_placeOf_2 (by decide) ?_
  refine lv_istore_n (lv' := [(3, .int 0), (2, .int 0), (0, .ref a0), (1, .int x1_)]) hx hb dX7_placeOf_3 rfl hl (by decide) rfl (fun ls hl => ?_)
  refine L_X7_placeOf_L4 C hlocks hr ka0 _ _ _ _ H locs ls hF h (lv_sub hl [2, 3, 1, 0] rfl) ?_
  intro x17 σ18 H locs ls hF h hl
  refine lv_iload_n hx hb dX7_placeOf_50 rfl (lv_at hl 0 rfl) ?_
  exact bz_iret C h hlocks hr hF dX7_placeOf_51
set_option maxHeartbeats 4000000 in
set_option maxRecDepth 100000 in
theorem L_X7_waitingAt_L2 {p : Program} {l : Launch} {e : Env} {s : State} {m : MethodId} {args : Array Value} {below : List Frame} {meth : Method} {c : Code} {G : bz_G} (C : bz_C p s m c args cX7_waitingAt 3 RX7 wz_X7_waitingAt G) (hlocks : meth.locks = false) (hr : meth.sig.returnType = (some .int)) {a0 : Nat} {a1 : Int32} (ka0 : bz_k G a0 = (8, 0)) {k : bz_W → Option (Int32 × bz_W)} {res : Int32 × bz_W} : ∀ (n : Nat) (v2 : Int32) (σ : bz_W) (H : Heap) (locs : List Loc) (ls : Array Slot), f_X7_waitingAt_L2 a0 a1 k n v2 σ = some res → bz_H G s σ H locs → lv_has ls 3 [(0, .ref a0), (1, .int a1), (2, .int v2)] → (∀ (σ : bz_W) (H : Heap) (locs : List Loc) (ls : Array Slot), k σ = some res → bz_H G s σ H locs → lv_has ls 3 [] → W p l e ({ frames := 4, cells := 0, slots := 0, locals := 90 } : Room) s m args below meth c H locs 0 0 (MQ below (bz_Qc G (some (.int res.1)) res.2) args s 0 0 (bz_A G)) (F0 m 37 ls [])) → W p l e ({ frames := 4, cells := 0, slots := 0, locals := 90 } : Room) s m args below meth c H locs 0 0 (MQ below (bz_Qc G (some (.int res.1)) res.2) args s 0 0 (bz_A G)) (F0 m 2 ls []) := by
  have hx := C.1
  have hb := C.2.1
  have hts := C.2.2.2.2.1
  intro n
  induction n with
  | zero =>
    intro v2 σ H locs ls hF
    exact absurd hF (by simp [f_X7_waitingAt_L2])
  | succ n ih =>
    intro v2 σ H locs ls hF h hl hk
    rw [f_X7_waitingAt_L2] at hF
    refine lv_iload_n hx hb dX7_waitingAt_2 rfl (lv_at hl 2 rfl) ?_
    refine lv_aload_n hx hb dX7_waitingAt_3 rfl (lv_at hl 0 rfl) ?_
    refine gf_7_0 C h ka0 iz_X7 (List.mem_cons_of_mem _ wd_4_13) dX7_waitingAt_4 (fun k1 => ?_)
    refine lv_iconst (v := 0) hx hb dX7_waitingAt_7 (by decide) ?_
    refine bz_iald C h k1 (by decide) (kx := 0) (bz_cl 0 (by decide)) dX7_waitingAt_8 ?_
    refine lv_icmp_ge (tgt := 37) hx hb dX7_waitingAt_9 (by decide) (fun c2 => ?_) (fun c2 => ?_)
    · have hF := it_t hF c2
      exact hk _ H locs ls hF h (lv_sub hl [] rfl)
    · have hF := it_f hF c2
      refine lv_aload_n hx hb dX7_waitingAt_12 rfl (lv_at hl 0 rfl) ?_
      refine lv_iload_n hx hb dX7_waitingAt_13 rfl (lv_at hl 2 rfl) ?_
      obtain ⟨r3, σ4, qr3, hF⟩ := bd_u hF
      refine bz_callV (rest := []) (st1 := [.int r3]) C h (As := [.int v2]) (o := some (.int r3)) (τ := σ4) (c_X7_waits (l := l) ka0 (res := (r3, σ4)) qr3) ka0 (by decide) (ci := 7) rfl (cwV 1 hts (bz_gV wd_14_22 wd_14_23 wd_15_0 wd_1_5 wd_15_1) rfl rfl rfl (by decide +kernel) ⟨Nat.le_of_ble_eq_true rfl, Nat.le_of_ble_eq_true rfl⟩) rfl hl.1 rfl (by decide) ⟨Nat.zero_le _, Nat.zero_le _⟩ dX7_waitingAt_14 rfl (fun H locs h => ?_)
      obtain ⟨j6, ej6, hF⟩ := lt_j hF
      have hj6 : ∀ (σ5 : bz_W) (H : Heap) (locs : List Loc) (ls : Array Slot), j6 σ5 = some res → bz_H G s σ5 H locs → lv_has ls 3 [(0, .ref a0), (1, .int a1), (2, .int v2)] → W p l e ({ frames := 4, cells := 0, slots := 0, locals := 90 } : Room) s m args below meth c H locs 0 0 (MQ below (bz_Qc G (some (.int res.1)) res.2) args s 0 0 (bz_A G)) (F0 m 31 ls []) := by
          intro σ5 H locs ls hF h hl
          subst ej6
          obtain ⟨x7, ex7⟩ : ∃ y : Int32, y = v2 + 1 := ⟨_, rfl⟩
          have hF := lt_u hF x7 ex7
          refine lv_iinc (v := x7) (lv' := [(2, .int x7), (0, .ref a0), (1, .int a1)]) hx hb dX7_waitingAt_31 hl (k := 2) rfl (by rw [ex7]; rfl) (by decide) rfl (fun ls hl => ?_)
          refine lv_goto (tgt := 2) hx hb dX7_waitingAt_34 (by decide) ?_
          exact ih _ _ H locs ls hF h (lv_sub hl [1, 2, 0] rfl) hk
      refine lv_if_eq (tgt := 31) hx hb dX7_waitingAt_17 (by decide) (fun c8 => ?_) (fun c8 => ?_)
      · have hF := it_t hF c8
        exact hj6 _ H locs ls hF h (lv_sub hl [0, 1, 2] rfl)
      · have hF := it_f hF c8
        refine lv_aload_n hx hb dX7_waitingAt_20 rfl (lv_at hl 0 rfl) ?_
        refine lv_iload_n hx hb dX7_waitingAt_21 rfl (lv_at hl 2 rfl) ?_
        obtain ⟨r9, σ10, qr9, hF⟩ := bd_u hF
        refine bz_callV (rest := []) (st1 := [.int r9]) C h (As := [.int v2]) (o := some (.int r9)) (τ := σ10) (c_X7_placeOf (l := l) ka0 (res := (r9, σ10)) qr9) ka0 (by decide) (ci := 7) rfl (cwV 1 hts (bz_gV wd_14_18 wd_14_19 wd_14_20 wd_1_5 wd_14_21) rfl rfl rfl (by decide +kernel) ⟨Nat.le_of_ble_eq_true rfl, Nat.le_of_ble_eq_true rfl⟩) rfl hl.1 rfl (by decide) ⟨Nat.zero_le _, Nat.zero_le _⟩ dX7_waitingAt_22 rfl (fun H locs h => ?_)
        refine lv_iload_n hx hb dX7_waitingAt_25 rfl (lv_at hl 1 rfl) ?_
        refine lv_icmp_ne (tgt := 31) hx hb dX7_waitingAt_26 (by decide) (fun c11 => ?_) (fun c11 => ?_)
        · have hF := it_f hF c11
          exact hj6 _ H locs ls hF h (lv_sub hl [0, 1, 2] rfl)
        · have hF := it_t hF c11
          refine lv_iload_n hx hb dX7_waitingAt_29 rfl (lv_at hl 2 rfl) ?_
          exact bz_iret C h hlocks hr hF dX7_waitingAt_30
set_option maxHeartbeats 4000000 in
set_option maxRecDepth 100000 in
theorem c_X7_waitingAt {l : Launch} {G : bz_G} {σ : bz_W} {a0 : Nat} {x1_ : Int32} (ka0 : bz_k G a0 = (8, 0)) {res : Int32 × bz_W} (hF : f_X7_waitingAt σ a0 x1_ = some res) : bz_M l yX7_waitingAt wz_X7_waitingAt 4 90 G σ [.ref a0, .int x1_] (some (.int res.1)) res.2 := by
  refine bz_mk (cc := cX7_waitingAt) (maxL := 3) (ret := (some .int)) (own := RX7) (by decide) rfl rfl (Nat.le_of_ble_eq_true rfl) ?_
  intro p e s m args below meth c ls C hlocks hr h hl
  have hx := C.1
  have hb := C.2.1
  have hts := C.2.2.2.2.1
  have hl : lv_has ls 3 [(0, .ref a0), (1, .int x1_)] := hl
  obtain ⟨H, eH⟩ : ∃ y, y = s.heap := ⟨_, rfl⟩
  obtain ⟨locs, el⟩ : ∃ y : List Loc, y = [] := ⟨_, rfl⟩
  rw [← el, ← eH] at h ⊢
  unfold f_X7_waitingAt at hF
  refine lv_iconst (v := 0) hx hb dX7_waitingAt_0 (by decide) ?_
  refine lv_istore_n (lv' := [(2, .int 0), (0, .ref a0), (1, .int x1_)]) hx hb dX7_waitingAt_1 rfl hl (by decide) rfl (fun ls hl => ?_)
  refine L_X7_waitingAt_L2 C hlocks hr ka0 _ _ _ H locs ls hF h (lv_sub hl [1, 2, 0] rfl) ?_
  intro σ12 H locs ls hF h hl
  refine lv_bipush (v := (-4)) hx hb dX7_waitingAt_37 (by decide) ?_
  exact bz_iret C h hlocks hr hF dX7_waitingAt_39
set_option maxHeartbeats 4000000 in
set_option maxRecDepth 100000 in
theorem c_X7_queue {l : Launch} {G : bz_G} {σ : bz_W} {a0 : Nat} {x1_ : Int32} (ka0 : bz_k G a0 = (8, 0)) {res : Int32 × bz_W} (hF : f_X7_queue σ a0 x1_ = some res) : bz_M l yX7_queue wz_X7_queue 5 112 G σ [.ref a0, .int x1_] (some (.int res.1)) res.2 := by
  refine bz_mk (cc := cX7_queue) (maxL := 2) (ret := (some .int)) (own := RX7) (by decide) rfl rfl (Nat.le_of_ble_eq_true rfl) ?_
  intro p e s m args below meth c ls C hlocks hr h hl
  have hx := C.1
  have hb := C.2.1
  have hts := C.2.2.2.2.1
  have hl : lv_has ls 2 [(0, .ref a0), (1, .int x1_)] := hl
  obtain ⟨H, eH⟩ : ∃ y, y = s.heap := ⟨_, rfl⟩
  obtain ⟨locs, el⟩ : ∃ y : List Loc, y = [] := ⟨_, rfl⟩
  rw [← el, ← eH] at h ⊢
  unfold f_X7_queue at hF
  refine lv_iload_n hx hb dX7_queue_0 rfl (lv_at hl 1 rfl) ?_
  refine lv_if_ge (tgt := 9) hx hb dX7_queue_1 (by decide) (fun c1 => ?_) (fun c1 => ?_)
  · have hF := it_t hF c1
    refine lv_aload_n hx hb dX7_queue_9 rfl (lv_at hl 0 rfl) ?_
    refine lv_iload_n hx hb dX7_queue_10 rfl (lv_at hl 1 rfl) ?_
    obtain ⟨r2, σ3, qr2, hF⟩ := bd_u hF
    refine bz_callV (rest := []) (st1 := [.int r2]) C h (As := [.int x1_]) (o := some (.int r2)) (τ := σ3) (c_X7_waitingAt (l := l) ka0 (res := (r2, σ3)) qr2) ka0 (by decide) (ci := 7) rfl (cwV 1 hts (bz_gV wd_20_4 wd_20_5 wd_20_6 wd_1_5 wd_20_7) rfl rfl rfl (by decide +kernel) ⟨Nat.le_of_ble_eq_true rfl, Nat.le_of_ble_eq_true rfl⟩) rfl hl.1 rfl (by decide) ⟨Nat.zero_le _, Nat.zero_le _⟩ dX7_queue_11 rfl (fun H locs h => ?_)
    exact bz_iret C h hlocks hr hF dX7_queue_14
  · have hF := it_f hF c1
    refine lv_bipush (v := (-2)) hx hb dX7_queue_4 (by decide) ?_
    refine lv_goto (tgt := 14) hx hb dX7_queue_6 (by decide) ?_
    exact bz_iret C h hlocks hr hF dX7_queue_14
set_option maxHeartbeats 4000000 in
set_option maxRecDepth 100000 in
theorem L_X7_against_L35 {p : Program} {l : Launch} {e : Env} {s : State} {m : MethodId} {args : Array Value} {below : List Frame} {meth : Method} {c : Code} {G : bz_G} (C : bz_C p s m c args cX7_against 4 RX7 wz_X7_against G) (hlocks : meth.locks = false) (hr : meth.sig.returnType = (some .int)) {a0 : Nat} (ka0 : bz_k G a0 = (8, 0)) {k : Int32 → bz_W → Option (Int32 × bz_W)} {res : Int32 × bz_W} : ∀ (n : Nat) (v2 : Int32) (v3 : Int32) (σ : bz_W) (H : Heap) (locs : List Loc) (ls : Array Slot), f_X7_against_L35 a0 k n v2 v3 σ = some res → bz_H G s σ H locs → lv_has ls 4 [(0, .ref a0), (2, .int v2), (3, .int v3)] → (∀ (w2 : Int32) (σ : bz_W) (H : Heap) (locs : List Loc) (ls : Array Slot), k w2 σ = some res → bz_H G s σ H locs → lv_has ls 4 [(0, .ref a0), (2, .int w2)] → W p l e ({ frames := 4, cells := 0, slots := 0, locals := 89 } : Room) s m args below meth c H locs 0 0 (MQ below (bz_Qc G (some (.int res.1)) res.2) args s 0 0 (bz_A G)) (F0 m 91 ls [])) → W p l e ({ frames := 4, cells := 0, slots := 0, locals := 89 } : Room) s m args below meth c H locs 0 0 (MQ below (bz_Qc G (some (.int res.1)) res.2) args s 0 0 (bz_A G)) (F0 m 35 ls []) := by
  have hx := C.1
  have hb := C.2.1
  have hts := C.2.2.2.2.1
  intro n
  induction n with
  | zero =>
    intro v2 v3 σ H locs ls hF
    exact absurd hF (by simp [f_X7_against_L35])
  | succ n ih =>
    intro v2 v3 σ H locs ls hF h hl hk
    rw [f_X7_against_L35] at hF
    refine lv_iload_n hx hb dX7_against_35 rfl (lv_at hl 2 rfl) ?_
    refine lv_aload_n hx hb dX7_against_36 rfl (lv_at hl 0 rfl) ?_
    refine gf_7_0 C h ka0 iz_X7 (List.mem_cons_of_mem _ wd_4_13) dX7_against_37 (fun k11 => ?_)
    refine lv_iconst (v := 0) hx hb dX7_against_40 (by decide) ?_
    refine bz_iald C h k11 (by decide) (kx := 0) (bz_cl 0 (by decide)) dX7_against_41 ?_
    refine lv_icmp_ge (tgt := 91) hx hb dX7_against_42 (by decide) (fun c12 => ?_) (fun c12 => ?_)
    · have hF := it_t hF c12
      exact hk _ _ H locs ls hF h (lv_sub hl [0, 1] rfl)
    · have hF := it_f hF c12
      refine lv_iload_n hx hb dX7_against_45 rfl (lv_at hl 1 rfl) ?_
      refine lv_aload_n hx hb dX7_against_46 rfl (lv_at hl 0 rfl) ?_
      refine lv_iload_n hx hb dX7_against_47 rfl (lv_at hl 2 rfl) ?_
      refine lv_iconst (v := 5) hx hb dX7_against_48 (by decide) ?_
      obtain ⟨r13, σ14, qr13, hF⟩ := bd_u hF
      refine bz_callV (rest := [.int v2]) (st1 := [.int r13, .int v2]) C h (As := [.int v3, .int 5]) (o := some (.int r13)) (τ := σ14) (c_X7_of (l := l) ka0 (res := (r13, σ14)) qr13) ka0 (by decide) (ci := 7) rfl (cwV 2 hts (bz_gV wd_9_15 wd_9_16 wd_9_17 wd_1_5 wd_9_18) rfl rfl rfl (by decide +kernel) ⟨Nat.le_of_ble_eq_true rfl, Nat.le_of_ble_eq_true rfl⟩) rfl hl.1 rfl (Nat.le_of_ble_eq_true rfl) ⟨Nat.zero_le _, Nat.zero_le _⟩ dX7_against_49 rfl (fun H locs h => ?_)
      refine lv_iconst (v := 2) hx hb dX7_against_52 (by decide) ?_
      obtain ⟨j17, ej17, hF⟩ := lt_j hF
      have hj17 : ∀ (y15 : Int32) (σ16 : bz_W) (H : Heap) (locs : List Loc) (ls : Array Slot), j17 y15 σ16 = some res → bz_H G s σ16 H locs → lv_has ls 4 [(0, .ref a0), (3, .int v3)] → W p l e ({ frames := 4, cells := 0, slots := 0, locals := 89 } : Room) s m args below meth c H locs 0 0 (MQ below (bz_Qc G (some (.int res.1)) res.2) args s 0 0 (bz_A G)) (F0 m 83 ls [.int y15, .int v2]) := by
          intro y15 σ16 H locs ls hF h hl
          subst ej17
          refine lv_iadd hx hb dX7_against_83 ?_
          refine lv_topi (fun x18 ex18 => ?_)
          have hF := lt_u hF x18 ex18
          refine lv_istore_n (lv' := [(2, .int x18), (0, .ref a0), (3, .int v3)]) hx hb dX7_against_84 rfl hl (by decide) rfl (fun ls hl => ?_)
          obtain ⟨x19, ex19⟩ : ∃ y : Int32, y = v3 + 1 := ⟨_, rfl⟩
          have hF := lt_u hF x19 ex19
          refine lv_iinc (v := x19) (lv' := [(3, .int x19), (2, .int x18), (0, .ref a0)]) hx hb dX7_against_85 hl (k := 2) rfl (by rw [ex19]; rfl) (by decide) rfl (fun ls hl => ?_)
          refine lv_goto (tgt := 35) hx hb dX7_against_88 (by decide) ?_
          exact ih _ _ _ H locs ls hF h (lv_sub hl [2, 1, 0] rfl) hk
      refine lv_icmp_ne (tgt := 64) hx hb dX7_against_53 (by decide) (fun c20 => ?_) (fun c20 => ?_)
      · have hF := it_f hF c20
        refine lv_aload_n hx hb dX7_against_64 rfl (lv_at hl 0 rfl) ?_
        refine lv_iload_n hx hb dX7_against_65 rfl (lv_at hl 2 rfl) ?_
        refine lv_iconst (v := 5) hx hb dX7_against_66 (by decide) ?_
        obtain ⟨r21, σ22, qr21, hF⟩ := bd_u hF
        refine bz_callV (rest := [.int v2]) (st1 := [.int r21, .int v2]) C h (As := [.int v3, .int 5]) (o := some (.int r21)) (τ := σ22) (c_X7_of (l := l) ka0 (res := (r21, σ22)) qr21) ka0 (by decide) (ci := 7) rfl (cwV 2 hts (bz_gV wd_9_15 wd_9_16 wd_9_17 wd_1_5 wd_9_18) rfl rfl rfl (by decide +kernel) ⟨Nat.le_of_ble_eq_true rfl, Nat.le_of_ble_eq_true rfl⟩) rfl hl.1 rfl (Nat.le_of_ble_eq_true rfl) ⟨Nat.zero_le _, Nat.zero_le _⟩ dX7_against_67 rfl (fun H locs h => ?_)
        refine lv_iconst (v := 3) hx hb dX7_against_70 (by decide) ?_
        refine lv_icmp_ne (tgt := 82) hx hb dX7_against_71 (by decide) (fun c23 => ?_) (fun c23 => ?_)
        · have hF := it_f hF c23
          refine lv_iconst (v := 0) hx hb dX7_against_82 (by decide) ?_
          exact hj17 _ _ H locs ls hF h (lv_sub hl [0, 2] rfl)
        · have hF := it_t hF c23
          refine lv_aload_n hx hb dX7_against_74 rfl (lv_at hl 0 rfl) ?_
          refine lv_iload_n hx hb dX7_against_75 rfl (lv_at hl 2 rfl) ?_
          obtain ⟨r24, σ25, qr24, hF⟩ := bd_u hF
          refine bz_callV (rest := [.int v2]) (st1 := [.int r24, .int v2]) C h (As := [.int v3]) (o := some (.int r24)) (τ := σ25) (c_X7_draws (l := l) ka0 (res := (r24, σ25)) qr24) ka0 (by decide) (ci := 7) rfl (cwV 1 hts (bz_gV wd_21_7 wd_21_8 wd_21_9 wd_1_5 wd_21_10) rfl rfl rfl (by decide +kernel) ⟨Nat.le_of_ble_eq_true rfl, Nat.le_of_ble_eq_true rfl⟩) rfl hl.1 rfl (Nat.le_of_ble_eq_true rfl) ⟨Nat.zero_le _, Nat.zero_le _⟩ dX7_against_76 rfl (fun H locs h => ?_)
          refine lv_goto (tgt := 83) hx hb dX7_against_79 (by decide) ?_
          exact hj17 _ _ H locs ls hF h (lv_sub hl [0, 2] rfl)
      · have hF := it_t hF c20
        refine lv_aload_n hx hb dX7_against_56 rfl (lv_at hl 0 rfl) ?_
        refine lv_iload_n hx hb dX7_against_57 rfl (lv_at hl 2 rfl) ?_
        obtain ⟨r26, σ27, qr26, hF⟩ := bd_u hF
        refine bz_callV (rest := [.int v2]) (st1 := [.int r26, .int v2]) C h (As := [.int v3]) (o := some (.int r26)) (τ := σ27) (c_X7_peak (l := l) ka0 (res := (r26, σ27)) qr26) ka0 (by decide) (ci := 7) rfl (cwV 1 hts (bz_gV wd_21_0 wd_21_1 wd_21_2 wd_1_5 wd_21_3) rfl rfl rfl (by decide +kernel) ⟨Nat.le_of_ble_eq_true rfl, Nat.le_of_ble_eq_true rfl⟩) rfl hl.1 rfl (Nat.le_of_ble_eq_true rfl) ⟨Nat.zero_le _, Nat.zero_le _⟩ dX7_against_58 rfl (fun H locs h => ?_)
        refine lv_goto (tgt := 83) hx hb dX7_against_61 (by decide) ?_
        exact hj17 _ _ H locs ls hF h (lv_sub hl [0, 2] rfl)
set_option maxHeartbeats 4000000 in
set_option maxRecDepth 100000 in
theorem c_X7_against {l : Launch} {G : bz_G} {σ : bz_W} {a0 : Nat} {x1_ : Int32} (ka0 : bz_k G a0 = (8, 0)) {res : Int32 × bz_W} (hF : f_X7_against σ a0 x1_ = some res) : bz_M l yX7_against wz_X7_against 4 89 G σ [.ref a0, .int x1_] (some (.int res.1)) res.2 := by
  refine bz_mk (cc := cX7_against) (maxL := 4) (ret := (some .int)) (own := RX7) (by decide) rfl rfl (Nat.le_of_ble_eq_true rfl) ?_
  intro p e s m args below meth c ls C hlocks hr h hl
  have hx := C.1
  have hb := C.2.1
  have hts := C.2.2.2.2.1
  have hl : lv_has ls 4 [(0, .ref a0), (1, .int x1_)] := hl
  obtain ⟨H, eH⟩ : ∃ y, y = s.heap := ⟨_, rfl⟩
  obtain ⟨locs, el⟩ : ∃ y : List Loc, y = [] := ⟨_, rfl⟩
  rw [← el, ← eH] at h ⊢
  unfold f_X7_against at hF
  refine lv_aload_n hx hb dX7_against_0 rfl (lv_at hl 0 rfl) ?_
  refine lv_iload_n hx hb dX7_against_1 rfl (lv_at hl 1 rfl) ?_
  refine lv_bipush (v := 7) hx hb dX7_against_2 (by decide) ?_
  obtain ⟨r1, σ2, qr1, hF⟩ := bd_u hF
  refine bz_callV (rest := []) (st1 := [.int r1]) C h (As := [.int x1_, .int 7]) (o := some (.int r1)) (τ := σ2) (c_X7_of (l := l) ka0 (res := (r1, σ2)) qr1) ka0 (by decide) (ci := 7) rfl (cwV 2 hts (bz_gV wd_9_15 wd_9_16 wd_9_17 wd_1_5 wd_9_18) rfl rfl rfl (by decide +kernel) ⟨Nat.le_of_ble_eq_true rfl, Nat.le_of_ble_eq_true rfl⟩) rfl hl.1 rfl (by decide) ⟨Nat.zero_le _, Nat.zero_le _⟩ dX7_against_4 rfl (fun H locs h => ?_)
  refine lv_if_eq (tgt := 12) hx hb dX7_against_7 (by decide) (fun c3 => ?_) (fun c3 => ?_)
  · have hF := it_t hF c3
    refine lv_aload_n hx hb dX7_against_12 rfl (lv_at hl 0 rfl) ?_
    refine lv_iload_n hx hb dX7_against_13 rfl (lv_at hl 1 rfl) ?_
    obtain ⟨r4, σ5, qr4, hF⟩ := bd_u hF
    refine bz_callV (rest := []) (st1 := [.int r4]) C h (As := [.int x1_]) (o := some (.int r4)) (τ := σ5) (c_X7_credit (l := l) ka0 (res := (r4, σ5)) qr4) ka0 (by decide) (ci := 7) rfl (cwV 1 hts (bz_gV wd_20_12 wd_20_13 wd_20_14 wd_1_5 wd_20_15) rfl rfl rfl (by decide +kernel) ⟨Nat.le_of_ble_eq_true rfl, Nat.le_of_ble_eq_true rfl⟩) rfl hl.1 rfl (by decide) ⟨Nat.zero_le _, Nat.zero_le _⟩ dX7_against_14 rfl (fun H locs h => ?_)
    refine lv_aload_n hx hb dX7_against_17 rfl (lv_at hl 0 rfl) ?_
    refine lv_iload_n hx hb dX7_against_18 rfl (lv_at hl 1 rfl) ?_
    obtain ⟨r6, σ7, qr6, hF⟩ := bd_u hF
    refine bz_callV (rest := [.int r4]) (st1 := [.int r6, .int r4]) C h (As := [.int x1_]) (o := some (.int r6)) (τ := σ7) (c_X7_needed (l := l) ka0 (res := (r6, σ7)) qr6) ka0 (by decide) (ci := 7) rfl (cwV 1 hts (bz_gV wd_20_16 wd_20_17 wd_20_18 wd_1_5 wd_20_19) rfl rfl rfl (by decide +kernel) ⟨Nat.le_of_ble_eq_true rfl, Nat.le_of_ble_eq_true rfl⟩) rfl hl.1 rfl (Nat.le_of_ble_eq_true rfl) ⟨Nat.zero_le _, Nat.zero_le _⟩ dX7_against_19 rfl (fun H locs h => ?_)
    refine lv_icmp_ge (tgt := 27) hx hb dX7_against_22 (by decide) (fun c8 => ?_) (fun c8 => ?_)
    · have hF := it_t hF c8
      refine lv_aload_n hx hb dX7_against_27 rfl (lv_at hl 0 rfl) ?_
      refine lv_iload_n hx hb dX7_against_28 rfl (lv_at hl 1 rfl) ?_
      obtain ⟨r9, σ10, qr9, hF⟩ := bd_u hF
      refine bz_callV (rest := []) (st1 := [.int r9]) C h (As := [.int x1_]) (o := some (.int r9)) (τ := σ10) (c_X7_peak (l := l) ka0 (res := (r9, σ10)) qr9) ka0 (by decide) (ci := 7) rfl (cwV 1 hts (bz_gV wd_21_0 wd_21_1 wd_21_2 wd_1_5 wd_21_3) rfl rfl rfl (by decide +kernel) ⟨Nat.le_of_ble_eq_true rfl, Nat.le_of_ble_eq_true rfl⟩) rfl hl.1 rfl (by decide) ⟨Nat.zero_le _, Nat.zero_le _⟩ dX7_against_29 rfl (fun H locs h => ?_)
      refine lv_istore_n (lv' := [(2, .int r9), (0, .ref a0), (1, .int x1_)]) hx hb dX7_against_32 rfl hl (by decide) rfl (fun ls hl => ?_)
      refine lv_iconst (v := 0) hx hb dX7_against_33 (by decide) ?_
      refine lv_istore_n (lv' := [(3, .int 0), (2, .int r9), (0, .ref a0), (1, .int x1_)]) hx hb dX7_against_34 rfl hl (by decide) rfl (fun ls hl => ?_)
      refine L_X7_against_L35 C hlocks hr ka0 _ _ _ _ H locs ls hF h (lv_sub hl [2, 1, 0] rfl) ?_
      intro x28 σ29 H locs ls hF h hl
      refine lv_iload_n hx hb dX7_against_91 rfl (lv_at hl 1 rfl) ?_
      refine lv_aload_n hx hb dX7_against_92 rfl (lv_at hl 0 rfl) ?_
      refine gf_7_0 C h ka0 iz_X7 (List.mem_cons_of_mem _ wd_4_13) dX7_against_93 (fun k30 => ?_)
      refine lv_iconst (v := 2) hx hb dX7_against_96 (by decide) ?_
      refine bz_iald C h k30 (by decide) (kx := 2) (bz_cl 2 (by decide)) dX7_against_97 ?_
      refine lv_icmp_le (tgt := 105) hx hb dX7_against_98 (by decide) (fun c31 => ?_) (fun c31 => ?_)
      · have hF := it_t hF c31
        refine lv_iconst (v := 0) hx hb dX7_against_105 (by decide) ?_
        exact bz_iret C h hlocks hr hF dX7_against_106
      · have hF := it_f hF c31
        refine lv_iconst (v := 3) hx hb dX7_against_101 (by decide) ?_
        refine lv_goto (tgt := 106) hx hb dX7_against_102 (by decide) ?_
        exact bz_iret C h hlocks hr hF dX7_against_106
    · have hF := it_f hF c8
      refine lv_iconst (v := 2) hx hb dX7_against_25 (by decide) ?_
      exact bz_iret C h hlocks hr hF dX7_against_26
  · have hF := it_f hF c3
    refine lv_iconst (v := 4) hx hb dX7_against_10 (by decide) ?_
    exact bz_iret C h hlocks hr hF dX7_against_11
set_option maxHeartbeats 4000000 in
set_option maxRecDepth 100000 in
theorem c_X7_whyNot {l : Launch} {G : bz_G} {σ : bz_W} {a0 : Nat} {x1_ : Int32} (ka0 : bz_k G a0 = (8, 0)) {res : Int32 × bz_W} (hF : f_X7_whyNot σ a0 x1_ = some res) : bz_M l yX7_whyNot wz_X7_whyNot 5 112 G σ [.ref a0, .int x1_] (some (.int res.1)) res.2 := by
  refine bz_mk (cc := cX7_whyNot) (maxL := 2) (ret := (some .int)) (own := RX7) (by decide) rfl rfl (Nat.le_of_ble_eq_true rfl) ?_
  intro p e s m args below meth c ls C hlocks hr h hl
  have hx := C.1
  have hb := C.2.1
  have hts := C.2.2.2.2.1
  have hl : lv_has ls 2 [(0, .ref a0), (1, .int x1_)] := hl
  obtain ⟨H, eH⟩ : ∃ y, y = s.heap := ⟨_, rfl⟩
  obtain ⟨locs, el⟩ : ∃ y : List Loc, y = [] := ⟨_, rfl⟩
  rw [← el, ← eH] at h ⊢
  unfold f_X7_whyNot at hF
  refine lv_aload_n hx hb dX7_whyNot_0 rfl (lv_at hl 0 rfl) ?_
  refine lv_iload_n hx hb dX7_whyNot_1 rfl (lv_at hl 1 rfl) ?_
  obtain ⟨r1, σ2, qr1, hF⟩ := bd_u hF
  refine bz_callV (rest := []) (st1 := [.int r1]) C h (As := [.int x1_]) (o := some (.int r1)) (τ := σ2) (c_X7_noMotor (l := l) ka0 (res := (r1, σ2)) qr1) ka0 (by decide) (ci := 7) rfl (cwV 1 hts (bz_gV wd_9_11 wd_9_12 wd_9_13 wd_1_5 wd_9_14) rfl rfl rfl (by decide +kernel) ⟨Nat.le_of_ble_eq_true rfl, Nat.le_of_ble_eq_true rfl⟩) rfl hl.1 rfl (by decide) ⟨Nat.zero_le _, Nat.zero_le _⟩ dX7_whyNot_2 rfl (fun H locs h => ?_)
  refine lv_if_eq (tgt := 10) hx hb dX7_whyNot_5 (by decide) (fun c3 => ?_) (fun c3 => ?_)
  · have hF := it_t hF c3
    refine lv_aload_n hx hb dX7_whyNot_10 rfl (lv_at hl 0 rfl) ?_
    refine lv_iload_n hx hb dX7_whyNot_11 rfl (lv_at hl 1 rfl) ?_
    obtain ⟨r4, σ5, qr4, hF⟩ := bd_u hF
    refine bz_callV (rest := []) (st1 := [.int r4]) C h (As := [.int x1_]) (o := some (.int r4)) (τ := σ5) (c_X7_waits (l := l) ka0 (res := (r4, σ5)) qr4) ka0 (by decide) (ci := 7) rfl (cwV 1 hts (bz_gV wd_14_22 wd_14_23 wd_15_0 wd_1_5 wd_15_1) rfl rfl rfl (by decide +kernel) ⟨Nat.le_of_ble_eq_true rfl, Nat.le_of_ble_eq_true rfl⟩) rfl hl.1 rfl (by decide) ⟨Nat.zero_le _, Nat.zero_le _⟩ dX7_whyNot_12 rfl (fun H locs h => ?_)
    refine lv_if_eq (tgt := 26) hx hb dX7_whyNot_15 (by decide) (fun c6 => ?_) (fun c6 => ?_)
    · have hF := it_t hF c6
      refine lv_bipush (v := (-4)) hx hb dX7_whyNot_26 (by decide) ?_
      exact bz_iret C h hlocks hr hF dX7_whyNot_28
    · have hF := it_f hF c6
      refine lv_aload_n hx hb dX7_whyNot_18 rfl (lv_at hl 0 rfl) ?_
      refine lv_iload_n hx hb dX7_whyNot_19 rfl (lv_at hl 1 rfl) ?_
      obtain ⟨r7, σ8, qr7, hF⟩ := bd_u hF
      refine bz_callV (rest := []) (st1 := [.int r7]) C h (As := [.int x1_]) (o := some (.int r7)) (τ := σ8) (c_X7_against (l := l) ka0 (res := (r7, σ8)) qr7) ka0 (by decide) (ci := 7) rfl (cwV 1 hts (bz_gV wd_20_8 wd_20_9 wd_20_10 wd_1_5 wd_20_11) rfl rfl rfl (by decide +kernel) ⟨Nat.le_of_ble_eq_true rfl, Nat.le_of_ble_eq_true rfl⟩) rfl hl.1 rfl (by decide) ⟨Nat.zero_le _, Nat.zero_le _⟩ dX7_whyNot_20 rfl (fun H locs h => ?_)
      refine lv_goto (tgt := 28) hx hb dX7_whyNot_23 (by decide) ?_
      exact bz_iret C h hlocks hr hF dX7_whyNot_28
  · have hF := it_f hF c3
    refine lv_iconst (v := (-1)) hx hb dX7_whyNot_8 (by decide) ?_
    exact bz_iret C h hlocks hr hF dX7_whyNot_9
set_option maxHeartbeats 4000000 in
set_option maxRecDepth 100000 in
theorem c_X7_note {l : Launch} {G : bz_G} {σ : bz_W} {a0 : Nat} {x1_ : Int32} {x2_ : Int32} (ka0 : bz_k G a0 = (8, 0)) {res : Int32 × bz_W} (hF : f_X7_note σ a0 x1_ x2_ = some res) : bz_M l yX7_note wz_X7_note 0 0 G σ [.ref a0, .int x1_, .int x2_] none res.2 := by
  refine bz_mk (cc := cX7_note) (maxL := 4) (ret := none) (own := RX7) (by decide) rfl rfl (Nat.le_of_ble_eq_true rfl) ?_
  intro p e s m args below meth c ls C hlocks hr h hl
  have hx := C.1
  have hb := C.2.1
  have hts := C.2.2.2.2.1
  have hl : lv_has ls 4 [(0, .ref a0), (1, .int x1_), (2, .int x2_)] := hl
  obtain ⟨H, eH⟩ : ∃ y, y = s.heap := ⟨_, rfl⟩
  obtain ⟨locs, el⟩ : ∃ y : List Loc, y = [] := ⟨_, rfl⟩
  rw [← el, ← eH] at h ⊢
  unfold f_X7_note at hF
  refine lv_sipush (v := 216) hx hb dX7_note_0 (by decide) ?_
  refine lv_iconst (v := 3) hx hb dX7_note_3 (by decide) ?_
  refine lv_aload_n hx hb dX7_note_4 rfl (lv_at hl 0 rfl) ?_
  refine gf_7_0 C h ka0 iz_X7 (List.mem_cons_of_mem _ wd_4_13) dX7_note_5 (fun k1 => ?_)
  refine lv_bipush (v := 6) hx hb dX7_note_8 (by decide) ?_
  refine bz_iald C h k1 (by decide) (kx := 6) (bz_cl 6 (by decide)) dX7_note_10 ?_
  refine lv_bipush (v := 10) hx hb dX7_note_11 (by decide) ?_
  refine lv_irem hx hb dX7_note_13 (by decide) ?_
  refine lv_imul hx hb dX7_note_14 ?_
  refine lv_iadd hx hb dX7_note_15 ?_
  refine lv_topi (fun x2 ex2 => ?_)
  have hF := lt_u hF x2 ex2
  refine lv_istore_n (lv' := [(3, .int x2), (0, .ref a0), (1, .int x1_), (2, .int x2_)]) hx hb dX7_note_16 rfl hl (by decide) rfl (fun ls hl => ?_)
  refine lv_aload_n hx hb dX7_note_17 rfl (lv_at hl 1 rfl) ?_
  refine gf_7_0 C h ka0 iz_X7 (List.mem_cons_of_mem _ wd_4_13) dX7_note_18 (fun k3 => ?_)
  refine lv_iload_n hx hb dX7_note_21 rfl (lv_at hl 0 rfl) ?_
  refine lv_aload_n hx hb dX7_note_22 rfl (lv_at hl 1 rfl) ?_
  refine gf_7_0 C h ka0 iz_X7 (List.mem_cons_of_mem _ wd_4_13) dX7_note_23 (fun k4 => ?_)
  refine lv_iconst (v := 1) hx hb dX7_note_26 (by decide) ?_
  refine bz_iald C h k4 (by decide) (kx := 1) (bz_cl 1 (by decide)) dX7_note_27 ?_
  obtain ⟨c5, hF⟩ := ck_u hF
  refine bz_iast C h k3 c5 (kx := x2.toNatClampNeg) rfl dX7_note_28 (fun H locs h => ?_)
  obtain ⟨σ6, eσ6⟩ : ∃ y : bz_W, y = bz_wi σ (σ.2 a0 0) x2.toNatClampNeg (σ.1 (σ.2 a0 0) 1) := ⟨_, rfl⟩
  rw [← eσ6] at h
  have hF := lt_u hF σ6 eσ6
  refine lv_aload_n hx hb dX7_note_29 rfl (lv_at hl 1 rfl) ?_
  refine gf_7_0 C h ka0 iz_X7 (List.mem_cons_of_mem _ wd_4_13) dX7_note_30 (fun k7 => ?_)
  refine lv_iload_n hx hb dX7_note_33 rfl (lv_at hl 0 rfl) ?_
  refine lv_iconst (v := 1) hx hb dX7_note_34 (by decide) ?_
  refine lv_iadd hx hb dX7_note_35 ?_
  refine lv_iload_n hx hb dX7_note_36 rfl (lv_at hl 2 rfl) ?_
  obtain ⟨c8, hF⟩ := ck_u hF
  refine bz_iast C h k7 c8 (kx := ((x2 + 1) : Int32).toNatClampNeg) rfl dX7_note_37 (fun H locs h => ?_)
  obtain ⟨σ9, eσ9⟩ : ∃ y : bz_W, y = bz_wi σ6 (σ6.2 a0 0) ((x2 + 1) : Int32).toNatClampNeg x1_ := ⟨_, rfl⟩
  rw [← eσ9] at h
  have hF := lt_u hF σ9 eσ9
  refine lv_aload_n hx hb dX7_note_38 rfl (lv_at hl 1 rfl) ?_
  refine gf_7_0 C h ka0 iz_X7 (List.mem_cons_of_mem _ wd_4_13) dX7_note_39 (fun k10 => ?_)
  refine lv_iload_n hx hb dX7_note_42 rfl (lv_at hl 0 rfl) ?_
  refine lv_iconst (v := 2) hx hb dX7_note_43 (by decide) ?_
  refine lv_iadd hx hb dX7_note_44 ?_
  refine lv_iload_n hx hb dX7_note_45 rfl (lv_at hl 3 rfl) ?_
  obtain ⟨c11, hF⟩ := ck_u hF
  refine bz_iast C h k10 c11 (kx := ((x2 + 2) : Int32).toNatClampNeg) rfl dX7_note_46 (fun H locs h => ?_)
  obtain ⟨σ12, eσ12⟩ : ∃ y : bz_W, y = bz_wi σ9 (σ9.2 a0 0) ((x2 + 2) : Int32).toNatClampNeg x2_ := ⟨_, rfl⟩
  rw [← eσ12] at h
  have hF := lt_u hF σ12 eσ12
  refine lv_aload_n hx hb dX7_note_47 rfl (lv_at hl 1 rfl) ?_
  refine gf_7_0 C h ka0 iz_X7 (List.mem_cons_of_mem _ wd_4_13) dX7_note_48 (fun k13 => ?_)
  refine lv_bipush (v := 6) hx hb dX7_note_51 (by decide) ?_
  refine lv_dup2_11 hx hb dX7_note_53 rfl rfl ?_
  refine bz_iald C h k13 (by decide) (kx := 6) (bz_cl 6 (by decide)) dX7_note_54 ?_
  refine lv_iconst (v := 1) hx hb dX7_note_55 (by decide) ?_
  refine lv_iadd hx hb dX7_note_56 ?_
  refine bz_iast C h k13 (by decide) (kx := 6) (bz_cl 6 (by decide)) dX7_note_57 (fun H locs h => ?_)
  obtain ⟨σ14, eσ14⟩ : ∃ y : bz_W, y = bz_wi σ12 (σ12.2 a0 0) 6 ((σ12.1 (σ12.2 a0 0) 6) + 1) := ⟨_, rfl⟩
  rw [← eσ14] at h
  have hF := lt_u hF σ14 eσ14
  exact bz_vret C h hlocks hr hF dX7_note_58
set_option maxHeartbeats 4000000 in
set_option maxRecDepth 100000 in
theorem c_X7_event {l : Launch} {G : bz_G} {σ : bz_W} {a0 : Nat} {x1_ : Int32} {x2_ : Int32} (ka0 : bz_k G a0 = (8, 0)) {res : Int32 × bz_W} (hF : f_X7_event σ a0 x1_ x2_ = some res) : bz_M l yX7_event wz_X7_event 1 22 G σ [.ref a0, .int x1_, .int x2_] (some (.int res.1)) res.2 := by
  refine bz_mk (cc := cX7_event) (maxL := 3) (ret := (some .int)) (own := RX7) (by decide) rfl rfl (Nat.le_of_ble_eq_true rfl) ?_
  intro p e s m args below meth c ls C hlocks hr h hl
  have hx := C.1
  have hb := C.2.1
  have hts := C.2.2.2.2.1
  have hl : lv_has ls 3 [(0, .ref a0), (1, .int x1_), (2, .int x2_)] := hl
  obtain ⟨H, eH⟩ : ∃ y, y = s.heap := ⟨_, rfl⟩
  obtain ⟨locs, el⟩ : ∃ y : List Loc, y = [] := ⟨_, rfl⟩
  rw [← el, ← eH] at h ⊢
  unfold f_X7_event at hF
  refine lv_iload_n hx hb dX7_event_0 rfl (lv_at hl 1 rfl) ?_
  refine lv_if_lt (tgt := 13) hx hb dX7_event_1 (by decide) (fun c1 => ?_) (fun c1 => ?_)
  · have hF := it_t hF c1
    refine lv_bipush (v := (-2)) hx hb dX7_event_13 (by decide) ?_
    exact bz_iret C h hlocks hr hF dX7_event_15
  · have hF := it_f hF c1
    refine lv_iload_n hx hb dX7_event_4 rfl (lv_at hl 2 rfl) ?_
    refine lv_iconst (v := 0) hx hb dX7_event_5 (by decide) ?_
    refine lv_iconst (v := 2) hx hb dX7_event_6 (by decide) ?_
    obtain ⟨r2, σ3, qr2, hF⟩ := bd_u hF
    refine bz_callS (rest := []) (st1 := [.int r2]) C h (As := [.int x2_, .int 0, .int 2]) (o := some (.int r2)) (τ := σ3) (c_X7_in (l := l)  (res := (r2, σ3)) qr2) (va_cwS 3 hts (bz_gS wd_8_5 wd_8_6 wd_1_5 wd_8_7) rfl rfl rfl (by decide +kernel) ⟨Nat.le_of_ble_eq_true rfl, Nat.le_of_ble_eq_true rfl⟩) rfl hl.1 rfl (by decide) ⟨Nat.zero_le _, Nat.zero_le _⟩ dX7_event_7 rfl (fun H locs h => ?_)
    refine lv_if_ne (tgt := 16) hx hb dX7_event_10 (by decide) (fun c4 => ?_) (fun c4 => ?_)
    · have hF := it_f hF c4
      refine lv_iload_n hx hb dX7_event_16 rfl (lv_at hl 1 rfl) ?_
      refine lv_bipush (v := 10) hx hb dX7_event_17 (by decide) ?_
      refine lv_icmp_ge (tgt := 33) hx hb dX7_event_19 (by decide) (fun c5 => ?_) (fun c5 => ?_)
      · have hF := it_t hF c5
        refine lv_bipush (v := (-4)) hx hb dX7_event_33 (by decide) ?_
        exact bz_iret C h hlocks hr hF dX7_event_35
      · have hF := it_f hF c5
        refine lv_iload_n hx hb dX7_event_22 rfl (lv_at hl 1 rfl) ?_
        refine lv_aload_n hx hb dX7_event_23 rfl (lv_at hl 0 rfl) ?_
        refine gf_7_0 C h ka0 iz_X7 (List.mem_cons_of_mem _ wd_4_13) dX7_event_24 (fun k6 => ?_)
        refine lv_bipush (v := 6) hx hb dX7_event_27 (by decide) ?_
        refine bz_iald C h k6 (by decide) (kx := 6) (bz_cl 6 (by decide)) dX7_event_29 ?_
        refine lv_icmp_lt (tgt := 36) hx hb dX7_event_30 (by decide) (fun c7 => ?_) (fun c7 => ?_)
        · have hF := it_t hF c7
          refine lv_aload_n hx hb dX7_event_36 rfl (lv_at hl 0 rfl) ?_
          refine gf_7_0 C h ka0 iz_X7 (List.mem_cons_of_mem _ wd_4_13) dX7_event_37 (fun k8 => ?_)
          refine lv_sipush (v := 216) hx hb dX7_event_40 (by decide) ?_
          refine lv_iconst (v := 3) hx hb dX7_event_43 (by decide) ?_
          refine lv_aload_n hx hb dX7_event_44 rfl (lv_at hl 0 rfl) ?_
          refine gf_7_0 C h ka0 iz_X7 (List.mem_cons_of_mem _ wd_4_13) dX7_event_45 (fun k9 => ?_)
          refine lv_bipush (v := 6) hx hb dX7_event_48 (by decide) ?_
          refine bz_iald C h k9 (by decide) (kx := 6) (bz_cl 6 (by decide)) dX7_event_50 ?_
          refine lv_iconst (v := 1) hx hb dX7_event_51 (by decide) ?_
          refine lv_isub hx hb dX7_event_52 ?_
          refine lv_iload_n hx hb dX7_event_53 rfl (lv_at hl 1 rfl) ?_
          refine lv_isub hx hb dX7_event_54 ?_
          refine lv_bipush (v := 10) hx hb dX7_event_55 (by decide) ?_
          refine lv_irem hx hb dX7_event_57 (by decide) ?_
          refine lv_imul hx hb dX7_event_58 ?_
          refine lv_iadd hx hb dX7_event_59 ?_
          refine lv_iload_n hx hb dX7_event_60 rfl (lv_at hl 2 rfl) ?_
          refine lv_iadd hx hb dX7_event_61 ?_
          obtain ⟨c10, hF⟩ := ck_u hF
          refine bz_iald C h k8 c10 (kx := (((216 + (3 * ((((σ3.1 (σ3.2 a0 0) 6) - 1) - x1_) - (((σ3.1 (σ3.2 a0 0) 6) - 1) - x1_) / 10 * 10))) + x2_) : Int32).toNatClampNeg) rfl dX7_event_62 ?_
          exact bz_iret C h hlocks hr hF dX7_event_63
        · have hF := it_f hF c7
          refine lv_bipush (v := (-4)) hx hb dX7_event_33 (by decide) ?_
          exact bz_iret C h hlocks hr hF dX7_event_35
    · have hF := it_t hF c4
      refine lv_bipush (v := (-2)) hx hb dX7_event_13 (by decide) ?_
      exact bz_iret C h hlocks hr hF dX7_event_15
set_option maxHeartbeats 4000000 in
set_option maxRecDepth 100000 in
theorem c_X7_trip {l : Launch} {G : bz_G} {σ : bz_W} {a0 : Nat} {x1_ : Int32} {x2_ : Int32} (ka0 : bz_k G a0 = (8, 0)) {res : Int32 × bz_W} (hF : f_X7_trip σ a0 x1_ x2_ = some res) : bz_M l yX7_trip wz_X7_trip 1 23 G σ [.ref a0, .int x1_, .int x2_] none res.2 := by
  refine bz_mk (cc := cX7_trip) (maxL := 3) (ret := none) (own := RX7) (by decide) rfl rfl (Nat.le_of_ble_eq_true rfl) ?_
  intro p e s m args below meth c ls C hlocks hr h hl
  have hx := C.1
  have hb := C.2.1
  have hts := C.2.2.2.2.1
  have hl : lv_has ls 3 [(0, .ref a0), (1, .int x1_), (2, .int x2_)] := hl
  obtain ⟨H, eH⟩ : ∃ y, y = s.heap := ⟨_, rfl⟩
  obtain ⟨locs, el⟩ : ∃ y : List Loc, y = [] := ⟨_, rfl⟩
  rw [← el, ← eH] at h ⊢
  unfold f_X7_trip at hF
  refine lv_aload_n hx hb dX7_trip_0 rfl (lv_at hl 0 rfl) ?_
  refine lv_iload_n hx hb dX7_trip_1 rfl (lv_at hl 1 rfl) ?_
  refine lv_iconst (v := 5) hx hb dX7_trip_2 (by decide) ?_
  refine lv_iconst (v := 4) hx hb dX7_trip_3 (by decide) ?_
  obtain ⟨r1, σ2, qr1, hF⟩ := bd_u hF
  refine bz_callV (rest := []) (st1 := []) C h (As := [.int x1_, .int 5, .int 4]) (o := none) (τ := σ2) (c_X7_put (l := l) ka0 (res := (r1, σ2)) qr1) ka0 (by decide) (ci := 7) rfl (cwV 3 hts (bz_gV wd_8_18 wd_8_19 wd_8_20 wd_1_5 wd_8_21) rfl rfl rfl (by decide +kernel) ⟨Nat.le_of_ble_eq_true rfl, Nat.le_of_ble_eq_true rfl⟩) rfl hl.1 rfl (by decide) ⟨Nat.zero_le _, Nat.zero_le _⟩ dX7_trip_4 rfl (fun H locs h => ?_)
  refine lv_aload_n hx hb dX7_trip_7 rfl (lv_at hl 0 rfl) ?_
  refine lv_iload_n hx hb dX7_trip_8 rfl (lv_at hl 1 rfl) ?_
  refine lv_bipush (v := 11) hx hb dX7_trip_9 (by decide) ?_
  refine lv_iload_n hx hb dX7_trip_11 rfl (lv_at hl 2 rfl) ?_
  obtain ⟨r3, σ4, qr3, hF⟩ := bd_u hF
  refine bz_callV (rest := []) (st1 := []) C h (As := [.int x1_, .int 11, .int x2_]) (o := none) (τ := σ4) (c_X7_put (l := l) ka0 (res := (r3, σ4)) qr3) ka0 (by decide) (ci := 7) rfl (cwV 3 hts (bz_gV wd_8_18 wd_8_19 wd_8_20 wd_1_5 wd_8_21) rfl rfl rfl (by decide +kernel) ⟨Nat.le_of_ble_eq_true rfl, Nat.le_of_ble_eq_true rfl⟩) rfl hl.1 rfl (by decide) ⟨Nat.zero_le _, Nat.zero_le _⟩ dX7_trip_12 rfl (fun H locs h => ?_)
  refine lv_aload_n hx hb dX7_trip_15 rfl (lv_at hl 0 rfl) ?_
  refine lv_iload_n hx hb dX7_trip_16 rfl (lv_at hl 1 rfl) ?_
  refine lv_bipush (v := 15) hx hb dX7_trip_17 (by decide) ?_
  refine lv_iconst (v := 1) hx hb dX7_trip_19 (by decide) ?_
  obtain ⟨r5, σ6, qr5, hF⟩ := bd_u hF
  refine bz_callV (rest := []) (st1 := []) C h (As := [.int x1_, .int 15, .int 1]) (o := none) (τ := σ6) (c_X7_more (l := l) ka0 (res := (r5, σ6)) qr5) ka0 (by decide) (ci := 7) rfl (cwV 3 hts (bz_gV wd_14_14 wd_14_15 wd_14_16 wd_1_5 wd_14_17) rfl rfl rfl (by decide +kernel) ⟨Nat.le_of_ble_eq_true rfl, Nat.le_of_ble_eq_true rfl⟩) rfl hl.1 rfl (by decide) ⟨Nat.zero_le _, Nat.zero_le _⟩ dX7_trip_20 rfl (fun H locs h => ?_)
  refine lv_aload_n hx hb dX7_trip_23 rfl (lv_at hl 0 rfl) ?_
  refine lv_iload_n hx hb dX7_trip_24 rfl (lv_at hl 1 rfl) ?_
  refine lv_iload_n hx hb dX7_trip_25 rfl (lv_at hl 2 rfl) ?_
  refine lv_iconst (v := 2) hx hb dX7_trip_26 (by decide) ?_
  refine lv_icmp_ne (tgt := 34) hx hb dX7_trip_27 (by decide) (fun c7 => ?_) (fun c7 => ?_)
  · have hF := it_f hF c7
    refine lv_iconst (v := 5) hx hb dX7_trip_34 (by decide) ?_
    obtain ⟨r8, σ9, qr8, hF⟩ := bd_u hF
    refine bz_callV (rest := []) (st1 := []) C h (As := [.int x1_, .int 5]) (o := none) (τ := σ9) (c_X7_note (l := l) ka0 (res := (r8, σ9)) qr8) ka0 (by decide) (ci := 7) rfl (cwV 2 hts (bz_gV wd_14_6 wd_14_7 wd_14_8 wd_1_5 wd_14_9) rfl rfl rfl (by decide +kernel) ⟨Nat.le_of_ble_eq_true rfl, Nat.le_of_ble_eq_true rfl⟩) rfl hl.1 rfl (by decide) ⟨Nat.zero_le _, Nat.zero_le _⟩ dX7_trip_35 rfl (fun H locs h => ?_)
    exact bz_vret C h hlocks hr hF dX7_trip_38
  · have hF := it_t hF c7
    refine lv_iconst (v := 4) hx hb dX7_trip_30 (by decide) ?_
    refine lv_goto (tgt := 35) hx hb dX7_trip_31 (by decide) ?_
    obtain ⟨r10, σ11, qr10, hF⟩ := bd_u hF
    refine bz_callV (rest := []) (st1 := []) C h (As := [.int x1_, .int 4]) (o := none) (τ := σ11) (c_X7_note (l := l) ka0 (res := (r10, σ11)) qr10) ka0 (by decide) (ci := 7) rfl (cwV 2 hts (bz_gV wd_14_6 wd_14_7 wd_14_8 wd_1_5 wd_14_9) rfl rfl rfl (by decide +kernel) ⟨Nat.le_of_ble_eq_true rfl, Nat.le_of_ble_eq_true rfl⟩) rfl hl.1 rfl (by decide) ⟨Nat.zero_le _, Nat.zero_le _⟩ dX7_trip_35 rfl (fun H locs h => ?_)
    exact bz_vret C h hlocks hr hF dX7_trip_38
set_option maxHeartbeats 4000000 in
set_option maxRecDepth 100000 in
theorem c_X7_wrongIn {l : Launch} {G : bz_G} {σ : bz_W} {a0 : Nat} {x1_ : Int32} {x2_ : Int32} {x3_ : Int32} (ka0 : bz_k G a0 = (8, 0)) {res : Int32 × bz_W} (hF : f_X7_wrongIn σ a0 x1_ x2_ x3_ = some res) : bz_M l yX7_wrongIn wz_X7_wrongIn 2 43 G σ [.ref a0, .int x1_, .int x2_, .int x3_] (some (.int res.1)) res.2 := by
  refine bz_mk (cc := cX7_wrongIn) (maxL := 5) (ret := (some .int)) (own := RX7) (by decide) rfl rfl (Nat.le_of_ble_eq_true rfl) ?_
  intro p e s m args below meth c ls C hlocks hr h hl
  have hx := C.1
  have hb := C.2.1
  have hts := C.2.2.2.2.1
  have hl : lv_has ls 5 [(0, .ref a0), (1, .int x1_), (2, .int x2_), (3, .int x3_)] := hl
  obtain ⟨H, eH⟩ : ∃ y, y = s.heap := ⟨_, rfl⟩
  obtain ⟨locs, el⟩ : ∃ y : List Loc, y = [] := ⟨_, rfl⟩
  rw [← el, ← eH] at h ⊢
  unfold f_X7_wrongIn at hF
  refine lv_iload_n hx hb dX7_wrongIn_0 rfl (lv_at hl 1 rfl) ?_
  refine lv_iconst (v := 4) hx hb dX7_wrongIn_1 (by decide) ?_
  refine lv_icmp_ne (tgt := 22) hx hb dX7_wrongIn_2 (by decide) (fun c1 => ?_) (fun c1 => ?_)
  · have hF := it_f hF c1
    refine lv_aload_n hx hb dX7_wrongIn_22 rfl (lv_at hl 0 rfl) ?_
    refine lv_iload_n hx hb dX7_wrongIn_23 rfl (lv_at hl 2 rfl) ?_
    obtain ⟨r2, σ3, qr2, hF⟩ := bd_u hF
    refine bz_callV (rest := []) (st1 := [.int r2]) C h (As := [.int x2_]) (o := some (.int r2)) (τ := σ3) (c_X7_noMotor (l := l) ka0 (res := (r2, σ3)) qr2) ka0 (by decide) (ci := 7) rfl (cwV 1 hts (bz_gV wd_9_11 wd_9_12 wd_9_13 wd_1_5 wd_9_14) rfl rfl rfl (by decide +kernel) ⟨Nat.le_of_ble_eq_true rfl, Nat.le_of_ble_eq_true rfl⟩) rfl hl.1 rfl (by decide) ⟨Nat.zero_le _, Nat.zero_le _⟩ dX7_wrongIn_24 rfl (fun H locs h => ?_)
    refine lv_if_eq (tgt := 32) hx hb dX7_wrongIn_27 (by decide) (fun c4 => ?_) (fun c4 => ?_)
    · have hF := it_t hF c4
      refine lv_aload_n hx hb dX7_wrongIn_32 rfl (lv_at hl 0 rfl) ?_
      refine lv_iload_n hx hb dX7_wrongIn_33 rfl (lv_at hl 2 rfl) ?_
      refine lv_iconst (v := 5) hx hb dX7_wrongIn_34 (by decide) ?_
      obtain ⟨r5, σ6, qr5, hF⟩ := bd_u hF
      refine bz_callV (rest := []) (st1 := [.int r5]) C h (As := [.int x2_, .int 5]) (o := some (.int r5)) (τ := σ6) (c_X7_of (l := l) ka0 (res := (r5, σ6)) qr5) ka0 (by decide) (ci := 7) rfl (cwV 2 hts (bz_gV wd_9_15 wd_9_16 wd_9_17 wd_1_5 wd_9_18) rfl rfl rfl (by decide +kernel) ⟨Nat.le_of_ble_eq_true rfl, Nat.le_of_ble_eq_true rfl⟩) rfl hl.1 rfl (by decide) ⟨Nat.zero_le _, Nat.zero_le _⟩ dX7_wrongIn_35 rfl (fun H locs h => ?_)
      refine lv_istore (lv' := [(4, .int r5), (0, .ref a0), (1, .int x1_), (2, .int x2_), (3, .int x3_)]) hx hb dX7_wrongIn_38 hl (by decide) rfl (fun ls hl => ?_)
      refine lv_iload_n hx hb dX7_wrongIn_40 rfl (lv_at hl 2 rfl) ?_
      refine lv_if_ne (tgt := 55) hx hb dX7_wrongIn_41 (by decide) (fun c7 => ?_) (fun c7 => ?_)
      · have hF := it_f hF c7
        refine lv_iload_n hx hb dX7_wrongIn_55 rfl (lv_at hl 2 rfl) ?_
        refine lv_iconst (v := 1) hx hb dX7_wrongIn_56 (by decide) ?_
        refine lv_icmp_ne (tgt := 77) hx hb dX7_wrongIn_57 (by decide) (fun c8 => ?_) (fun c8 => ?_)
        · have hF := it_f hF c8
          refine lv_iload_n hx hb dX7_wrongIn_77 rfl (lv_at hl 2 rfl) ?_
          refine lv_iconst (v := 2) hx hb dX7_wrongIn_78 (by decide) ?_
          refine lv_icmp_ne (tgt := 100) hx hb dX7_wrongIn_79 (by decide) (fun c9 => ?_) (fun c9 => ?_)
          · have hF := it_f hF c9
            refine lv_iload hx hb dX7_wrongIn_100 (lv_at hl 0 rfl) ?_
            refine lv_iconst (v := 4) hx hb dX7_wrongIn_102 (by decide) ?_
            refine lv_icmp_eq (tgt := 108) hx hb dX7_wrongIn_103 (by decide) (fun c10 => ?_) (fun c10 => ?_)
            · have hF := it_t hF c10
              refine lv_aload_n hx hb dX7_wrongIn_108 rfl (lv_at hl 1 rfl) ?_
              refine lv_iload_n hx hb dX7_wrongIn_109 rfl (lv_at hl 3 rfl) ?_
              refine lv_bipush (v := 7) hx hb dX7_wrongIn_110 (by decide) ?_
              obtain ⟨r11, σ12, qr11, hF⟩ := bd_u hF
              refine bz_callV (rest := []) (st1 := [.int r11]) C h (As := [.int x2_, .int 7]) (o := some (.int r11)) (τ := σ12) (c_X7_of (l := l) ka0 (res := (r11, σ12)) qr11) ka0 (by decide) (ci := 7) rfl (cwV 2 hts (bz_gV wd_9_15 wd_9_16 wd_9_17 wd_1_5 wd_9_18) rfl rfl rfl (by decide +kernel) ⟨Nat.le_of_ble_eq_true rfl, Nat.le_of_ble_eq_true rfl⟩) rfl hl.1 rfl (by decide) ⟨Nat.zero_le _, Nat.zero_le _⟩ dX7_wrongIn_112 rfl (fun H locs h => ?_)
              refine lv_if_eq (tgt := 122) hx hb dX7_wrongIn_115 (by decide) (fun c13 => ?_) (fun c13 => ?_)
              · have hF := it_t hF c13
                refine lv_aload_n hx hb dX7_wrongIn_122 rfl (lv_at hl 1 rfl) ?_
                refine lv_iload_n hx hb dX7_wrongIn_123 rfl (lv_at hl 3 rfl) ?_
                refine lv_bipush (v := 6) hx hb dX7_wrongIn_124 (by decide) ?_
                obtain ⟨r14, σ15, qr14, hF⟩ := bd_u hF
                refine bz_callV (rest := []) (st1 := [.int r14]) C h (As := [.int x2_, .int 6]) (o := some (.int r14)) (τ := σ15) (c_X7_of (l := l) ka0 (res := (r14, σ15)) qr14) ka0 (by decide) (ci := 7) rfl (cwV 2 hts (bz_gV wd_9_15 wd_9_16 wd_9_17 wd_1_5 wd_9_18) rfl rfl rfl (by decide +kernel) ⟨Nat.le_of_ble_eq_true rfl, Nat.le_of_ble_eq_true rfl⟩) rfl hl.1 rfl (by decide) ⟨Nat.zero_le _, Nat.zero_le _⟩ dX7_wrongIn_126 rfl (fun H locs h => ?_)
                refine lv_aload_n hx hb dX7_wrongIn_129 rfl (lv_at hl 1 rfl) ?_
                refine lv_iload_n hx hb dX7_wrongIn_130 rfl (lv_at hl 3 rfl) ?_
                refine lv_iconst (v := 3) hx hb dX7_wrongIn_131 (by decide) ?_
                obtain ⟨r16, σ17, qr16, hF⟩ := bd_u hF
                refine bz_callV (rest := [.int r14]) (st1 := [.int r16, .int r14]) C h (As := [.int x2_, .int 3]) (o := some (.int r16)) (τ := σ17) (c_X7_of (l := l) ka0 (res := (r16, σ17)) qr16) ka0 (by decide) (ci := 7) rfl (cwV 2 hts (bz_gV wd_9_15 wd_9_16 wd_9_17 wd_1_5 wd_9_18) rfl rfl rfl (by decide +kernel) ⟨Nat.le_of_ble_eq_true rfl, Nat.le_of_ble_eq_true rfl⟩) rfl hl.1 rfl (Nat.le_of_ble_eq_true rfl) ⟨Nat.zero_le _, Nat.zero_le _⟩ dX7_wrongIn_132 rfl (fun H locs h => ?_)
                refine lv_iconst (v := 2) hx hb dX7_wrongIn_135 (by decide) ?_
                refine lv_idiv hx hb dX7_wrongIn_136 (by decide) ?_
                refine lv_icmp_le (tgt := 144) hx hb dX7_wrongIn_137 (by decide) (fun c18 => ?_) (fun c18 => ?_)
                · have hF := it_t hF c18
                  refine lv_iconst (v := 0) hx hb dX7_wrongIn_144 (by decide) ?_
                  exact bz_iret C h hlocks hr hF dX7_wrongIn_145
                · have hF := it_f hF c18
                  refine lv_iconst (v := 2) hx hb dX7_wrongIn_140 (by decide) ?_
                  refine lv_goto (tgt := 145) hx hb dX7_wrongIn_141 (by decide) ?_
                  exact bz_iret C h hlocks hr hF dX7_wrongIn_145
              · have hF := it_f hF c13
                refine lv_iconst (v := 4) hx hb dX7_wrongIn_118 (by decide) ?_
                refine lv_goto (tgt := 145) hx hb dX7_wrongIn_119 (by decide) ?_
                exact bz_iret C h hlocks hr hF dX7_wrongIn_145
            · have hF := it_f hF c10
              refine lv_iconst (v := 1) hx hb dX7_wrongIn_106 (by decide) ?_
              exact bz_iret C h hlocks hr hF dX7_wrongIn_107
          · have hF := it_t hF c9
            refine lv_aload_n hx hb dX7_wrongIn_82 rfl (lv_at hl 1 rfl) ?_
            refine lv_iload_n hx hb dX7_wrongIn_83 rfl (lv_at hl 3 rfl) ?_
            refine lv_bipush (v := 7) hx hb dX7_wrongIn_84 (by decide) ?_
            obtain ⟨r19, σ20, qr19, hF⟩ := bd_u hF
            refine bz_callV (rest := []) (st1 := [.int r19]) C h (As := [.int x2_, .int 7]) (o := some (.int r19)) (τ := σ20) (c_X7_of (l := l) ka0 (res := (r19, σ20)) qr19) ka0 (by decide) (ci := 7) rfl (cwV 2 hts (bz_gV wd_9_15 wd_9_16 wd_9_17 wd_1_5 wd_9_18) rfl rfl rfl (by decide +kernel) ⟨Nat.le_of_ble_eq_true rfl, Nat.le_of_ble_eq_true rfl⟩) rfl hl.1 rfl (by decide) ⟨Nat.zero_le _, Nat.zero_le _⟩ dX7_wrongIn_86 rfl (fun H locs h => ?_)
            refine lv_iload_n hx hb dX7_wrongIn_89 rfl (lv_at hl 4 rfl) ?_
            refine lv_icmp_ne (tgt := 98) hx hb dX7_wrongIn_90 (by decide) (fun c21 => ?_) (fun c21 => ?_)
            · have hF := it_f hF c21
              refine lv_iconst (v := 0) hx hb dX7_wrongIn_98 (by decide) ?_
              exact bz_iret C h hlocks hr hF dX7_wrongIn_99
            · have hF := it_t hF c21
              refine lv_bipush (v := (-4)) hx hb dX7_wrongIn_93 (by decide) ?_
              refine lv_goto (tgt := 99) hx hb dX7_wrongIn_95 (by decide) ?_
              exact bz_iret C h hlocks hr hF dX7_wrongIn_99
        · have hF := it_t hF c8
          refine lv_iload hx hb dX7_wrongIn_60 (lv_at hl 0 rfl) ?_
          refine lv_if_eq (tgt := 71) hx hb dX7_wrongIn_62 (by decide) (fun c22 => ?_) (fun c22 => ?_)
          · have hF := it_t hF c22
            refine lv_iconst (v := 1) hx hb dX7_wrongIn_71 (by decide) ?_
            refine lv_goto (tgt := 76) hx hb dX7_wrongIn_72 (by decide) ?_
            exact bz_iret C h hlocks hr hF dX7_wrongIn_76
          · have hF := it_f hF c22
            refine lv_iload hx hb dX7_wrongIn_65 (lv_at hl 0 rfl) ?_
            refine lv_iconst (v := 4) hx hb dX7_wrongIn_67 (by decide) ?_
            refine lv_icmp_ne (tgt := 75) hx hb dX7_wrongIn_68 (by decide) (fun c23 => ?_) (fun c23 => ?_)
            · have hF := it_f hF c23
              refine lv_iconst (v := 0) hx hb dX7_wrongIn_75 (by decide) ?_
              exact bz_iret C h hlocks hr hF dX7_wrongIn_76
            · have hF := it_t hF c23
              refine lv_iconst (v := 1) hx hb dX7_wrongIn_71 (by decide) ?_
              refine lv_goto (tgt := 76) hx hb dX7_wrongIn_72 (by decide) ?_
              exact bz_iret C h hlocks hr hF dX7_wrongIn_76
      · have hF := it_t hF c7
        refine lv_iload hx hb dX7_wrongIn_44 (lv_at hl 0 rfl) ?_
        refine lv_if_ne (tgt := 53) hx hb dX7_wrongIn_46 (by decide) (fun c24 => ?_) (fun c24 => ?_)
        · have hF := it_f hF c24
          refine lv_iconst (v := 1) hx hb dX7_wrongIn_53 (by decide) ?_
          exact bz_iret C h hlocks hr hF dX7_wrongIn_54
        · have hF := it_t hF c24
          refine lv_iconst (v := 0) hx hb dX7_wrongIn_49 (by decide) ?_
          refine lv_goto (tgt := 54) hx hb dX7_wrongIn_50 (by decide) ?_
          exact bz_iret C h hlocks hr hF dX7_wrongIn_54
    · have hF := it_f hF c4
      refine lv_iconst (v := (-1)) hx hb dX7_wrongIn_30 (by decide) ?_
      exact bz_iret C h hlocks hr hF dX7_wrongIn_31
  · have hF := it_t hF c1
    refine lv_aload_n hx hb dX7_wrongIn_5 rfl (lv_at hl 0 rfl) ?_
    refine gf_7_0 C h ka0 iz_X7 (List.mem_cons_of_mem _ wd_4_13) dX7_wrongIn_6 (fun k25 => ?_)
    refine lv_iconst (v := 3) hx hb dX7_wrongIn_9 (by decide) ?_
    refine bz_iald C h k25 (by decide) (kx := 3) (bz_cl 3 (by decide)) dX7_wrongIn_10 ?_
    refine lv_iload_n hx hb dX7_wrongIn_11 rfl (lv_at hl 2 rfl) ?_
    refine lv_icmp_ne (tgt := 20) hx hb dX7_wrongIn_12 (by decide) (fun c26 => ?_) (fun c26 => ?_)
    · have hF := it_f hF c26
      refine lv_iconst (v := 0) hx hb dX7_wrongIn_20 (by decide) ?_
      exact bz_iret C h hlocks hr hF dX7_wrongIn_21
    · have hF := it_t hF c26
      refine lv_bipush (v := (-4)) hx hb dX7_wrongIn_15 (by decide) ?_
      refine lv_goto (tgt := 21) hx hb dX7_wrongIn_17 (by decide) ?_
      exact bz_iret C h hlocks hr hF dX7_wrongIn_21
