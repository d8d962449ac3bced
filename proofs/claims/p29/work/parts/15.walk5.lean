set_option maxHeartbeats 4000000 in
set_option maxRecDepth 100000 in
theorem L_L_digest_L43 {p : Program} {l : Launch} {e : Env} {s : State} {m : MethodId} {args : Array Value} {below : List Frame} {meth : Method} {c : Code} {G : bz_G} (C : bz_C p s m c args cL_digest 5 RL wz_L_digest G) (hlocks : meth.locks = false) (hr : meth.sig.returnType = (some .long)) {a0 : Nat} (ka0 : bz_k G a0 = (7, 0)) {k : Int64 → bz_W → Option (Int64 × bz_W)} {res : Int64 × bz_W} : ∀ (n : Nat) (v1 : Int64) (v3 : Int32) (σ : bz_W) (H : Heap) (locs : List Loc) (ls : Array Slot), f_L_digest_L43 a0 k n v1 v3 σ = some res → bz_H G s σ H locs → lv_has ls 5 [(0, .ref a0), (1, .long v1), (3, .int v3)] → (∀ (w1 : Int64) (σ : bz_W) (H : Heap) (locs : List Loc) (ls : Array Slot), k w1 σ = some res → bz_H G s σ H locs → lv_has ls 5 [(0, .ref a0), (1, .long w1)] → W p l e ({ frames := 4, cells := 0, slots := 0, locals := 85 } : Room) s m args below meth c H locs 0 0 (MQ below (bz_Qc G (some (.long res.1)) res.2) args s 0 0 (bz_A G)) (F0 m 120 ls [])) → W p l e ({ frames := 4, cells := 0, slots := 0, locals := 85 } : Room) s m args below meth c H locs 0 0 (MQ below (bz_Qc G (some (.long res.1)) res.2) args s 0 0 (bz_A G)) (F0 m 43 ls []) := by
  have hx := C.1
  have hb := C.2.1
  have hts := C.2.2.2.2.1
  intro n
  induction n with
  | zero =>
    intro v1 v3 σ H locs ls hF
    exact absurd hF (by simp [f_L_digest_L43])
  | succ n ih =>
    intro v1 v3 σ H locs ls hF h hl hk
    rw [f_L_digest_L43] at hF
    refine lv_iload_n hx hb dL_digest_43 rfl (lv_at hl 2 rfl) ?_
    refine lv_aload_n hx hb dL_digest_44 rfl (lv_at hl 0 rfl) ?_
    refine lv_iconst (v := 0) hx hb dL_digest_45 (by decide) ?_
    obtain ⟨r13, σ14, qr13, hF⟩ := bd_u hF
    refine bz_callV (rest := [.int v3]) (st1 := [.int r13, .int v3]) C h (As := [.int 0]) (o := some (.int r13)) (τ := σ14) (c_X6_count (l := l) ka0 (res := (r13, σ14)) qr13) ka0 (by decide) (ci := 6) rfl (cwV 1 hts (bz_gV wd_16_2 wd_16_3 wd_16_4 wd_1_2 wd_16_5) rfl rfl rfl (by decide +kernel) ⟨Nat.le_of_ble_eq_true rfl, Nat.le_of_ble_eq_true rfl⟩) rfl hl.1 rfl (Nat.le_of_ble_eq_true rfl) ⟨Nat.le_of_ble_eq_true rfl, Nat.le_of_ble_eq_true rfl⟩ dL_digest_46 rfl (fun H locs h => ?_)
    refine lv_icmp_ge (tgt := 120) hx hb dL_digest_49 (by decide) (fun c15 => ?_) (fun c15 => ?_)
    · have hF := it_t hF c15
      exact hk _ _ H locs ls hF h (lv_sub hl [0, 1] rfl)
    · have hF := it_f hF c15
      refine lv_iconst (v := 0) hx hb dL_digest_52 (by decide) ?_
      refine lv_istore (lv' := [(4, .int 0), (0, .ref a0), (1, .long v1), (3, .int v3)]) hx hb dL_digest_53 hl (by decide) rfl (fun ls hl => ?_)
      refine L_L_digest_L55 C hlocks hr ka0 _ _ _ _ H locs ls hF h (lv_sub hl [1, 3, 2, 0] rfl) ?_
      intro x21 σ22 H locs ls hF h hl
      refine lv_iconst (v := 0) hx hb dL_digest_83 (by decide) ?_
      refine lv_istore (lv' := [(4, .int 0), (0, .ref a0), (1, .long x21), (3, .int v3)]) hx hb dL_digest_84 hl (by decide) rfl (fun ls hl => ?_)
      refine L_L_digest_L86 C hlocks hr ka0 _ _ _ _ H locs ls hF h (lv_sub hl [1, 3, 2, 0] rfl) ?_
      intro x28 σ29 H locs ls hF h hl
      obtain ⟨x30, ex30⟩ : ∃ y : Int32, y = v3 + 1 := ⟨_, rfl⟩
      have hF := lt_u hF x30 ex30
      refine lv_iinc (v := x30) (lv' := [(3, .int x30), (0, .ref a0), (1, .long x28)]) hx hb dL_digest_114 hl (k := 2) rfl (by rw [ex30]; rfl) (by decide) rfl (fun ls hl => ?_)
      refine lv_goto (tgt := 43) hx hb dL_digest_117 (by decide) ?_
      exact ih _ _ _ H locs ls hF h (lv_sub hl [1, 2, 0] rfl) hk
set_option maxHeartbeats 4000000 in
set_option maxRecDepth 100000 in
theorem L_L_digest_L122 {p : Program} {l : Launch} {e : Env} {s : State} {m : MethodId} {args : Array Value} {below : List Frame} {meth : Method} {c : Code} {G : bz_G} (C : bz_C p s m c args cL_digest 5 RL wz_L_digest G) (hlocks : meth.locks = false) (hr : meth.sig.returnType = (some .long)) {a0 : Nat} (ka0 : bz_k G a0 = (7, 0)) {k : Int64 → bz_W → Option (Int64 × bz_W)} {res : Int64 × bz_W} : ∀ (n : Nat) (v1 : Int64) (v3 : Int32) (σ : bz_W) (H : Heap) (locs : List Loc) (ls : Array Slot), f_L_digest_L122 a0 k n v1 v3 σ = some res → bz_H G s σ H locs → lv_has ls 5 [(0, .ref a0), (1, .long v1), (3, .int v3)] → (∀ (w1 : Int64) (σ : bz_W) (H : Heap) (locs : List Loc) (ls : Array Slot), k w1 σ = some res → bz_H G s σ H locs → lv_has ls 5 [(1, .long w1)] → W p l e ({ frames := 4, cells := 0, slots := 0, locals := 85 } : Room) s m args below meth c H locs 0 0 (MQ below (bz_Qc G (some (.long res.1)) res.2) args s 0 0 (bz_A G)) (F0 m 172 ls [])) → W p l e ({ frames := 4, cells := 0, slots := 0, locals := 85 } : Room) s m args below meth c H locs 0 0 (MQ below (bz_Qc G (some (.long res.1)) res.2) args s 0 0 (bz_A G)) (F0 m 122 ls []) := by
  have hx := C.1
  have hb := C.2.1
  have hts := C.2.2.2.2.1
  intro n
  induction n with
  | zero =>
    intro v1 v3 σ H locs ls hF
    exact absurd hF (by simp [f_L_digest_L122])
  | succ n ih =>
    intro v1 v3 σ H locs ls hF h hl hk
    rw [f_L_digest_L122] at hF
    refine lv_iload_n hx hb dL_digest_122 rfl (lv_at hl 2 rfl) ?_
    refine lv_bipush (v := 10) hx hb dL_digest_123 (by decide) ?_
    refine lv_icmp_ge (tgt := 172) hx hb dL_digest_125 (by decide) (fun c33 => ?_) (fun c33 => ?_)
    · have hF := it_t hF c33
      exact hk _ _ H locs ls hF h (lv_sub hl [1] rfl)
    · have hF := it_f hF c33
      refine lv_ldc2 (v := 31) hx hb C.2.2.2.1 (hts _ (List.mem_cons_of_mem _ wd_21_1)) dL_digest_128 ?_
      refine lv_lload_n hx hb dL_digest_131 rfl (lv_at hl 1 rfl) ?_
      refine lv_lmul hx hb dL_digest_132 ?_
      refine lv_ldc2 (v := 100) hx hb C.2.2.2.1 (hts _ (List.mem_cons_of_mem _ wd_21_2)) dL_digest_133 ?_
      refine lv_aload_n hx hb dL_digest_136 rfl (lv_at hl 0 rfl) ?_
      refine lv_iload_n hx hb dL_digest_137 rfl (lv_at hl 2 rfl) ?_
      refine lv_iconst (v := 0) hx hb dL_digest_138 (by decide) ?_
      obtain ⟨r34, σ35, qr34, hF⟩ := bd_u hF
      refine bz_callV (rest := [.long (100 : Int64), .long ((31 : Int64) * v1)]) (st1 := [.int r34, .long (100 : Int64), .long ((31 : Int64) * v1)]) C h (As := [.int v3, .int 0]) (o := some (.int r34)) (τ := σ35) (c_X6_event (l := l) ka0 (res := (r34, σ35)) qr34) ka0 (by decide) (ci := 6) rfl (cwV 2 hts (bz_gV wd_10_20 wd_10_21 wd_10_22 wd_1_2 wd_10_23) rfl rfl rfl (by decide +kernel) ⟨Nat.le_of_ble_eq_true rfl, Nat.le_of_ble_eq_true rfl⟩) rfl hl.1 rfl (Nat.le_of_ble_eq_true rfl) ⟨Nat.le_of_ble_eq_true rfl, Nat.le_of_ble_eq_true rfl⟩ dL_digest_139 rfl (fun H locs h => ?_)
      refine lv_i2l hx hb dL_digest_142 rfl ?_
      refine lv_lmul hx hb dL_digest_143 ?_
      refine lv_ladd hx hb dL_digest_144 ?_
      refine lv_ldc2 (v := 10) hx hb C.2.2.2.1 (hts _ (List.mem_cons_of_mem _ wd_21_3)) dL_digest_145 ?_
      refine lv_aload_n hx hb dL_digest_148 rfl (lv_at hl 0 rfl) ?_
      refine lv_iload_n hx hb dL_digest_149 rfl (lv_at hl 2 rfl) ?_
      refine lv_iconst (v := 1) hx hb dL_digest_150 (by decide) ?_
      obtain ⟨r36, σ37, qr36, hF⟩ := bd_u hF
      refine bz_callV (rest := [.long (10 : Int64), .long (((31 : Int64) * v1) + ((100 : Int64) * r34.toInt64))]) (st1 := [.int r36, .long (10 : Int64), .long (((31 : Int64) * v1) + ((100 : Int64) * r34.toInt64))]) C h (As := [.int v3, .int 1]) (o := some (.int r36)) (τ := σ37) (c_X6_event (l := l) ka0 (res := (r36, σ37)) qr36) ka0 (by decide) (ci := 6) rfl (cwV 2 hts (bz_gV wd_10_20 wd_10_21 wd_10_22 wd_1_2 wd_10_23) rfl rfl rfl (by decide +kernel) ⟨Nat.le_of_ble_eq_true rfl, Nat.le_of_ble_eq_true rfl⟩) rfl hl.1 rfl (Nat.le_of_ble_eq_true rfl) ⟨Nat.le_of_ble_eq_true rfl, Nat.le_of_ble_eq_true rfl⟩ dL_digest_151 rfl (fun H locs h => ?_)
      refine lv_i2l hx hb dL_digest_154 rfl ?_
      refine lv_lmul hx hb dL_digest_155 ?_
      refine lv_ladd hx hb dL_digest_156 ?_
      refine lv_aload_n hx hb dL_digest_157 rfl (lv_at hl 0 rfl) ?_
      refine lv_iload_n hx hb dL_digest_158 rfl (lv_at hl 2 rfl) ?_
      refine lv_iconst (v := 2) hx hb dL_digest_159 (by decide) ?_
      obtain ⟨r38, σ39, qr38, hF⟩ := bd_u hF
      refine bz_callV (rest := [.long ((((31 : Int64) * v1) + ((100 : Int64) * r34.toInt64)) + ((10 : Int64) * r36.toInt64))]) (st1 := [.int r38, .long ((((31 : Int64) * v1) + ((100 : Int64) * r34.toInt64)) + ((10 : Int64) * r36.toInt64))]) C h (As := [.int v3, .int 2]) (o := some (.int r38)) (τ := σ39) (c_X6_event (l := l) ka0 (res := (r38, σ39)) qr38) ka0 (by decide) (ci := 6) rfl (cwV 2 hts (bz_gV wd_10_20 wd_10_21 wd_10_22 wd_1_2 wd_10_23) rfl rfl rfl (by decide +kernel) ⟨Nat.le_of_ble_eq_true rfl, Nat.le_of_ble_eq_true rfl⟩) rfl hl.1 rfl (Nat.le_of_ble_eq_true rfl) ⟨Nat.le_of_ble_eq_true rfl, Nat.le_of_ble_eq_true rfl⟩ dL_digest_160 rfl (fun H locs h => ?_)
      refine lv_i2l hx hb dL_digest_163 rfl ?_
      refine lv_ladd hx hb dL_digest_164 ?_
      refine lv_topl (fun x40 ex40 => ?_)
      have hF := lt_u hF x40 ex40
      refine lv_lstore_n (lv' := [(1, .long x40), (0, .ref a0), (3, .int v3)]) hx hb dL_digest_165 rfl hl (by decide) rfl (fun ls hl => ?_)
      obtain ⟨x41, ex41⟩ : ∃ y : Int32, y = v3 + 1 := ⟨_, rfl⟩
      have hF := lt_u hF x41 ex41
      refine lv_iinc (v := x41) (lv' := [(3, .int x41), (1, .long x40), (0, .ref a0)]) hx hb dL_digest_166 hl (k := 2) rfl (by rw [ex41]; rfl) (by decide) rfl (fun ls hl => ?_)
      refine lv_goto (tgt := 122) hx hb dL_digest_169 (by decide) ?_
      exact ih _ _ _ H locs ls hF h (lv_sub hl [2, 1, 0] rfl) hk
set_option maxHeartbeats 4000000 in
set_option maxRecDepth 100000 in
theorem c_L_digest {l : Launch} {G : bz_G} {σ : bz_W} {a0 : Nat} (ka0 : bz_k G a0 = (7, 0)) {res : Int64 × bz_W} (hF : f_L_digest σ a0 = some res) : bz_M l yL_digest wz_L_digest 4 85 G σ [.ref a0] (some (.long res.1)) res.2 := by
  refine bz_mk (cc := cL_digest) (maxL := 5) (ret := (some .long)) (own := RL) (by decide) rfl rfl (Nat.le_of_ble_eq_true rfl) ?_
  intro p e s m args below meth c ls C hlocks hr h hl
  have hx := C.1
  have hb := C.2.1
  have hts := C.2.2.2.2.1
  have hl : lv_has ls 5 [(0, .ref a0)] := hl
  obtain ⟨H, eH⟩ : ∃ y, y = s.heap := ⟨_, rfl⟩
  obtain ⟨locs, el⟩ : ∃ y : List Loc, y = [] := ⟨_, rfl⟩
  rw [← el, ← eH] at h ⊢
  unfold f_L_digest at hF
  refine lv_ldc2 (v := 47) hx hb C.2.2.2.1 (hts _ (List.mem_cons_of_mem _ wd_21_0)) dL_digest_0 ?_
  refine lv_topl (fun x1 ex1 => ?_)
  have hF := lt_u hF x1 ex1
  refine lv_lstore_n (lv' := [(1, .long x1), (0, .ref a0)]) hx hb dL_digest_3 rfl hl (by decide) rfl (fun ls hl => ?_)
  refine lv_iconst (v := 0) hx hb dL_digest_4 (by decide) ?_
  refine lv_istore_n (lv' := [(3, .int 0), (1, .long x1), (0, .ref a0)]) hx hb dL_digest_5 rfl hl (by decide) rfl (fun ls hl => ?_)
  refine L_L_digest_L6 C hlocks hr ka0 _ _ _ _ H locs ls hF h (lv_sub hl [2, 1, 0] rfl) ?_
  intro x11 σ12 H locs ls hF h hl
  refine lv_iconst (v := 0) hx hb dL_digest_41 (by decide) ?_
  refine lv_istore_n (lv' := [(3, .int 0), (0, .ref a0), (1, .long x11)]) hx hb dL_digest_42 rfl hl (by decide) rfl (fun ls hl => ?_)
  refine L_L_digest_L43 C hlocks hr ka0 _ _ _ _ H locs ls hF h (lv_sub hl [1, 2, 0] rfl) ?_
  intro x31 σ32 H locs ls hF h hl
  refine lv_iconst (v := 0) hx hb dL_digest_120 (by decide) ?_
  refine lv_istore_n (lv' := [(3, .int 0), (0, .ref a0), (1, .long x31)]) hx hb dL_digest_121 rfl hl (by decide) rfl (fun ls hl => ?_)
  refine L_L_digest_L122 C hlocks hr ka0 _ _ _ _ H locs ls hF h (lv_sub hl [1, 2, 0] rfl) ?_
  intro x42 σ43 H locs ls hF h hl
  refine lv_lload_n hx hb dL_digest_172 rfl (lv_at hl 0 rfl) ?_
  exact bz_lret C h hlocks hr hF dL_digest_173
set_option maxHeartbeats 4000000 in
set_option maxRecDepth 100000 in
theorem c_L_peak {l : Launch} {G : bz_G} {σ : bz_W} {a0 : Nat} {x1_ : Int32} (ka0 : bz_k G a0 = (7, 0)) {res : Int32 × bz_W} (hF : f_L_peak σ a0 x1_ = some res) : bz_M l yL_peak wz_L_peak 3 65 G σ [.ref a0, .int x1_] (some (.int res.1)) res.2 := by
  refine bz_mk (cc := cL_peak) (maxL := 2) (ret := (some .int)) (own := RL) (by decide) rfl rfl (Nat.le_of_ble_eq_true rfl) ?_
  intro p e s m args below meth c ls C hlocks hr h hl
  have hx := C.1
  have hb := C.2.1
  have hts := C.2.2.2.2.1
  have hl : lv_has ls 2 [(0, .ref a0), (1, .int x1_)] := hl
  obtain ⟨H, eH⟩ : ∃ y, y = s.heap := ⟨_, rfl⟩
  obtain ⟨locs, el⟩ : ∃ y : List Loc, y = [] := ⟨_, rfl⟩
  rw [← el, ← eH] at h ⊢
  unfold f_L_peak at hF
  refine lv_aload_n hx hb dL_peak_0 rfl (lv_at hl 0 rfl) ?_
  refine lv_iload_n hx hb dL_peak_1 rfl (lv_at hl 1 rfl) ?_
  refine lv_iconst (v := 0) hx hb dL_peak_2 (by decide) ?_
  obtain ⟨r1, σ2, qr1, hF⟩ := bd_u hF
  refine bz_callV (rest := []) (st1 := [.int r1]) C h (As := [.int x1_, .int 0]) (o := some (.int r1)) (τ := σ2) (c_X6_motor (l := l) ka0 (res := (r1, σ2)) qr1) ka0 (by decide) (ci := 6) rfl (cwV 2 hts (bz_gV wd_21_4 wd_21_5 wd_21_6 wd_1_2 wd_21_7) rfl rfl rfl (by decide +kernel) ⟨Nat.le_of_ble_eq_true rfl, Nat.le_of_ble_eq_true rfl⟩) rfl hl.1 rfl (by decide) ⟨Nat.le_of_ble_eq_true rfl, Nat.le_of_ble_eq_true rfl⟩ dL_peak_3 rfl (fun H locs h => ?_)
  refine lv_aload_n hx hb dL_peak_6 rfl (lv_at hl 0 rfl) ?_
  refine lv_iload_n hx hb dL_peak_7 rfl (lv_at hl 1 rfl) ?_
  refine lv_iconst (v := 2) hx hb dL_peak_8 (by decide) ?_
  obtain ⟨r3, σ4, qr3, hF⟩ := bd_u hF
  refine bz_callV (rest := [.int r1]) (st1 := [.int r3, .int r1]) C h (As := [.int x1_, .int 2]) (o := some (.int r3)) (τ := σ4) (c_X6_motor (l := l) ka0 (res := (r3, σ4)) qr3) ka0 (by decide) (ci := 6) rfl (cwV 2 hts (bz_gV wd_21_4 wd_21_5 wd_21_6 wd_1_2 wd_21_7) rfl rfl rfl (by decide +kernel) ⟨Nat.le_of_ble_eq_true rfl, Nat.le_of_ble_eq_true rfl⟩) rfl hl.1 rfl (Nat.le_of_ble_eq_true rfl) ⟨Nat.le_of_ble_eq_true rfl, Nat.le_of_ble_eq_true rfl⟩ dL_peak_9 rfl (fun H locs h => ?_)
  refine lv_imul hx hb dL_peak_12 ?_
  exact bz_iret C h hlocks hr hF dL_peak_13
set_option maxHeartbeats 4000000 in
set_option maxRecDepth 100000 in
theorem L_L_heatOf_L12 {p : Program} {l : Launch} {e : Env} {s : State} {m : MethodId} {args : Array Value} {below : List Frame} {meth : Method} {c : Code} {G : bz_G} (C : bz_C p s m c args cL_heatOf 6 RL wz_L_heatOf G) (hlocks : meth.locks = false) (hr : meth.sig.returnType = (some .int)) {a0 : Nat} {a1 : Int32} {a2 : Int32} (ka0 : bz_k G a0 = (7, 0)) {k : Int32 → bz_W → Option (Int32 × bz_W)} {res : Int32 × bz_W} : ∀ (n : Nat) (v3 : Int32) (v4 : Int32) (σ : bz_W) (H : Heap) (locs : List Loc) (ls : Array Slot), f_L_heatOf_L12 a0 a1 a2 k n v3 v4 σ = some res → bz_H G s σ H locs → lv_has ls 6 [(0, .ref a0), (1, .int a1), (2, .int a2), (3, .int v3), (4, .int v4)] → (∀ (w3 : Int32) (σ : bz_W) (H : Heap) (locs : List Loc) (ls : Array Slot), k w3 σ = some res → bz_H G s σ H locs → lv_has ls 6 [(3, .int w3)] → W p l e ({ frames := 4, cells := 0, slots := 0, locals := 86 } : Room) s m args below meth c H locs 0 0 (MQ below (bz_Qc G (some (.int res.1)) res.2) args s 0 0 (bz_A G)) (F0 m 72 ls [])) → W p l e ({ frames := 4, cells := 0, slots := 0, locals := 86 } : Room) s m args below meth c H locs 0 0 (MQ below (bz_Qc G (some (.int res.1)) res.2) args s 0 0 (bz_A G)) (F0 m 12 ls []) := by
  have hx := C.1
  have hb := C.2.1
  have hts := C.2.2.2.2.1
  intro n
  induction n with
  | zero =>
    intro v3 v4 σ H locs ls hF
    exact absurd hF (by simp [f_L_heatOf_L12])
  | succ n ih =>
    intro v3 v4 σ H locs ls hF h hl hk
    rw [f_L_heatOf_L12] at hF
    refine lv_iload hx hb dL_heatOf_12 (lv_at hl 4 rfl) ?_
    refine lv_iload_n hx hb dL_heatOf_14 rfl (lv_at hl 2 rfl) ?_
    refine lv_icmp_gt (tgt := 72) hx hb dL_heatOf_15 (by decide) (fun c3 => ?_) (fun c3 => ?_)
    · have hF := it_t hF c3
      exact hk _ _ H locs ls hF h (lv_sub hl [3] rfl)
    · have hF := it_f hF c3
      refine lv_aload_n hx hb dL_heatOf_18 rfl (lv_at hl 0 rfl) ?_
      refine lv_iload_n hx hb dL_heatOf_19 rfl (lv_at hl 1 rfl) ?_
      obtain ⟨r4, σ5, qr4, hF⟩ := bd_u hF
      refine bz_callS (rest := []) (st1 := [.int r4]) C h (As := [.ref a0, .int a1]) (o := some (.int r4)) (τ := σ5) (c_L_peak (l := l) ka0 (res := (r4, σ5)) qr4) (va_cwS 2 hts (bz_gS wd_24_21 wd_24_22 wd_20_14 wd_24_23) rfl rfl rfl (by decide +kernel) ⟨Nat.le_of_ble_eq_true rfl, Nat.le_of_ble_eq_true rfl⟩) rfl hl.1 rfl (by decide) ⟨Nat.le_of_ble_eq_true rfl, Nat.le_of_ble_eq_true rfl⟩ dL_heatOf_20 rfl (fun H locs h => ?_)
      refine lv_iload hx hb dL_heatOf_23 (lv_at hl 4 rfl) ?_
      refine lv_imul hx hb dL_heatOf_25 ?_
      refine lv_iload_n hx hb dL_heatOf_26 rfl (lv_at hl 2 rfl) ?_
      obtain ⟨c6, hF⟩ := ck_u hF
      refine lv_idiv hx hb dL_heatOf_27 (by simpa using c6) ?_
      refine lv_topi (fun x7 ex7 => ?_)
      have hF := lt_u hF x7 ex7
      refine lv_istore (lv' := [(5, .int x7), (0, .ref a0), (1, .int a1), (2, .int a2), (3, .int v3), (4, .int v4)]) hx hb dL_heatOf_28 hl (by decide) rfl (fun ls hl => ?_)
      refine lv_iload hx hb dL_heatOf_30 (lv_at hl 0 rfl) ?_
      refine lv_iload hx hb dL_heatOf_32 (lv_at hl 0 rfl) ?_
      refine lv_iload_n hx hb dL_heatOf_34 rfl (lv_at hl 3 rfl) ?_
      refine lv_imul hx hb dL_heatOf_35 ?_
      refine lv_aload_n hx hb dL_heatOf_36 rfl (lv_at hl 1 rfl) ?_
      refine lv_iload_n hx hb dL_heatOf_37 rfl (lv_at hl 2 rfl) ?_
      obtain ⟨r8, σ9, qr8, hF⟩ := bd_u hF
      refine bz_callS (rest := [.int (x7 * a2), .int x7]) (st1 := [.int r8, .int (x7 * a2), .int x7]) C h (As := [.ref a0, .int a1]) (o := some (.int r8)) (τ := σ9) (c_L_peak (l := l) ka0 (res := (r8, σ9)) qr8) (va_cwS 2 hts (bz_gS wd_24_21 wd_24_22 wd_20_14 wd_24_23) rfl rfl rfl (by decide +kernel) ⟨Nat.le_of_ble_eq_true rfl, Nat.le_of_ble_eq_true rfl⟩) rfl hl.1 rfl (Nat.le_of_ble_eq_true rfl) ⟨Nat.le_of_ble_eq_true rfl, Nat.le_of_ble_eq_true rfl⟩ dL_heatOf_38 rfl (fun H locs h => ?_)
      refine lv_iload hx hb dL_heatOf_41 (lv_at hl 5 rfl) ?_
      refine lv_imul hx hb dL_heatOf_43 ?_
      obtain ⟨j12, ej12, hF⟩ := lt_j hF
      have hj12 : ∀ (y10 : Int32) (σ11 : bz_W) (H : Heap) (locs : List Loc) (ls : Array Slot), j12 y10 σ11 = some res → bz_H G s σ11 H locs → lv_has ls 6 [(0, .ref a0), (1, .int a1), (2, .int a2), (3, .int v3), (4, .int v4)] → W p l e ({ frames := 4, cells := 0, slots := 0, locals := 86 } : Room) s m args below meth c H locs 0 0 (MQ below (bz_Qc G (some (.int res.1)) res.2) args s 0 0 (bz_A G)) (F0 m 52 ls [.int y10, .int x7]) := by
          intro y10 σ11 H locs ls hF h hl
          subst ej12
          refine lv_iadd hx hb dL_heatOf_52 ?_
          refine lv_topi (fun x13 ex13 => ?_)
          have hF := lt_u hF x13 ex13
          refine lv_istore (lv' := [(5, .int x13), (0, .ref a0), (1, .int a1), (2, .int a2), (3, .int v3), (4, .int v4)]) hx hb dL_heatOf_53 hl (by decide) rfl (fun ls hl => ?_)
          refine lv_iload_n hx hb dL_heatOf_55 rfl (lv_at hl 4 rfl) ?_
          refine lv_iload hx hb dL_heatOf_56 (lv_at hl 0 rfl) ?_
          refine lv_iload hx hb dL_heatOf_58 (lv_at hl 0 rfl) ?_
          refine lv_imul hx hb dL_heatOf_60 ?_
          refine lv_bipush (v := 10) hx hb dL_heatOf_61 (by decide) ?_
          refine lv_idiv hx hb dL_heatOf_63 (by decide) ?_
          refine lv_iadd hx hb dL_heatOf_64 ?_
          refine lv_topi (fun x14 ex14 => ?_)
          have hF := lt_u hF x14 ex14
          refine lv_istore_n (lv' := [(3, .int x14), (5, .int x13), (0, .ref a0), (1, .int a1), (2, .int a2), (4, .int v4)]) hx hb dL_heatOf_65 rfl hl (by decide) rfl (fun ls hl => ?_)
          obtain ⟨x15, ex15⟩ : ∃ y : Int32, y = v4 + 1 := ⟨_, rfl⟩
          have hF := lt_u hF x15 ex15
          refine lv_iinc (v := x15) (lv' := [(4, .int x15), (3, .int x14), (5, .int x13), (0, .ref a0), (1, .int a1), (2, .int a2)]) hx hb dL_heatOf_66 hl (k := 5) rfl (by rw [ex15]; rfl) (by decide) rfl (fun ls hl => ?_)
          refine lv_goto (tgt := 12) hx hb dL_heatOf_69 (by decide) ?_
          exact ih _ _ _ H locs ls hF h (lv_sub hl [3, 4, 5, 1, 0] rfl) hk
      refine lv_icmp_ge (tgt := 51) hx hb dL_heatOf_44 (by decide) (fun c16 => ?_) (fun c16 => ?_)
      · have hF := it_t hF c16
        refine lv_iconst (v := 0) hx hb dL_heatOf_51 (by decide) ?_
        exact hj12 _ _ H locs ls hF h (lv_sub hl [1, 2, 3, 4, 5] rfl)
      · have hF := it_f hF c16
        refine lv_iconst (v := 1) hx hb dL_heatOf_47 (by decide) ?_
        refine lv_goto (tgt := 52) hx hb dL_heatOf_48 (by decide) ?_
        exact hj12 _ _ H locs ls hF h (lv_sub hl [1, 2, 3, 4, 5] rfl)
set_option maxHeartbeats 4000000 in
set_option maxRecDepth 100000 in
theorem c_L_heatOf {l : Launch} {G : bz_G} {σ : bz_W} {a0 : Nat} {x1_ : Int32} (ka0 : bz_k G a0 = (7, 0)) {res : Int32 × bz_W} (hF : f_L_heatOf σ a0 x1_ = some res) : bz_M l yL_heatOf wz_L_heatOf 4 86 G σ [.ref a0, .int x1_] (some (.int res.1)) res.2 := by
  refine bz_mk (cc := cL_heatOf) (maxL := 6) (ret := (some .int)) (own := RL) (by decide) rfl rfl (Nat.le_of_ble_eq_true rfl) ?_
  intro p e s m args below meth c ls C hlocks hr h hl
  have hx := C.1
  have hb := C.2.1
  have hts := C.2.2.2.2.1
  have hl : lv_has ls 6 [(0, .ref a0), (1, .int x1_)] := hl
  obtain ⟨H, eH⟩ : ∃ y, y = s.heap := ⟨_, rfl⟩
  obtain ⟨locs, el⟩ : ∃ y : List Loc, y = [] := ⟨_, rfl⟩
  rw [← el, ← eH] at h ⊢
  unfold f_L_heatOf at hF
  refine lv_aload_n hx hb dL_heatOf_0 rfl (lv_at hl 0 rfl) ?_
  refine lv_iload_n hx hb dL_heatOf_1 rfl (lv_at hl 1 rfl) ?_
  refine lv_iconst (v := 1) hx hb dL_heatOf_2 (by decide) ?_
  obtain ⟨r1, σ2, qr1, hF⟩ := bd_u hF
  refine bz_callV (rest := []) (st1 := [.int r1]) C h (As := [.int x1_, .int 1]) (o := some (.int r1)) (τ := σ2) (c_X6_motor (l := l) ka0 (res := (r1, σ2)) qr1) ka0 (by decide) (ci := 6) rfl (cwV 2 hts (bz_gV wd_21_4 wd_21_5 wd_21_6 wd_1_2 wd_21_7) rfl rfl rfl (by decide +kernel) ⟨Nat.le_of_ble_eq_true rfl, Nat.le_of_ble_eq_true rfl⟩) rfl hl.1 rfl (by decide) ⟨Nat.le_of_ble_eq_true rfl, Nat.le_of_ble_eq_true rfl⟩ dL_heatOf_3 rfl (fun H locs h => ?_)
  refine lv_istore_n (lv' := [(2, .int r1), (0, .ref a0), (1, .int x1_)]) hx hb dL_heatOf_6 rfl hl (by decide) rfl (fun ls hl => ?_)
  refine lv_iconst (v := 0) hx hb dL_heatOf_7 (by decide) ?_
  refine lv_istore_n (lv' := [(3, .int 0), (2, .int r1), (0, .ref a0), (1, .int x1_)]) hx hb dL_heatOf_8 rfl hl (by decide) rfl (fun ls hl => ?_)
  refine lv_iconst (v := 1) hx hb dL_heatOf_9 (by decide) ?_
  refine lv_istore (lv' := [(4, .int 1), (3, .int 0), (2, .int r1), (0, .ref a0), (1, .int x1_)]) hx hb dL_heatOf_10 hl (by decide) rfl (fun ls hl => ?_)
  refine L_L_heatOf_L12 C hlocks hr ka0 _ _ _ _ H locs ls hF h (lv_sub hl [3, 4, 2, 1, 0] rfl) ?_
  intro x17 σ18 H locs ls hF h hl
  refine lv_iload_n hx hb dL_heatOf_72 rfl (lv_at hl 0 rfl) ?_
  exact bz_iret C h hlocks hr hF dL_heatOf_73
set_option maxHeartbeats 4000000 in
set_option maxRecDepth 100000 in
theorem L_L_why_L44 {p : Program} {l : Launch} {e : Env} {s : State} {m : MethodId} {args : Array Value} {below : List Frame} {meth : Method} {c : Code} {G : bz_G} (C : bz_C p s m c args cL_why 5 RL wz_L_why G) (hlocks : meth.locks = false) (hr : meth.sig.returnType = (some .int)) {a0 : Nat} (ka0 : bz_k G a0 = (7, 0)) {k : Int32 → bz_W → Option (Int32 × bz_W)} {res : Int32 × bz_W} : ∀ (n : Nat) (v2 : Int32) (v3 : Int32) (σ : bz_W) (H : Heap) (locs : List Loc) (ls : Array Slot), f_L_why_L44 a0 k n v2 v3 σ = some res → bz_H G s σ H locs → lv_has ls 5 [(0, .ref a0), (2, .int v2), (3, .int v3)] → (∀ (w2 : Int32) (σ : bz_W) (H : Heap) (locs : List Loc) (ls : Array Slot), k w2 σ = some res → bz_H G s σ H locs → lv_has ls 5 [(0, .ref a0), (2, .int w2)] → W p l e ({ frames := 4, cells := 0, slots := 0, locals := 86 } : Room) s m args below meth c H locs 0 0 (MQ below (bz_Qc G (some (.int res.1)) res.2) args s 0 0 (bz_A G)) (F0 m 101 ls [])) → W p l e ({ frames := 4, cells := 0, slots := 0, locals := 86 } : Room) s m args below meth c H locs 0 0 (MQ below (bz_Qc G (some (.int res.1)) res.2) args s 0 0 (bz_A G)) (F0 m 44 ls []) := by
  have hx := C.1
  have hb := C.2.1
  have hts := C.2.2.2.2.1
  intro n
  induction n with
  | zero =>
    intro v2 v3 σ H locs ls hF
    exact absurd hF (by simp [f_L_why_L44])
  | succ n ih =>
    intro v2 v3 σ H locs ls hF h hl hk
    rw [f_L_why_L44] at hF
    refine lv_iload_n hx hb dL_why_44 rfl (lv_at hl 2 rfl) ?_
    refine lv_aload_n hx hb dL_why_45 rfl (lv_at hl 0 rfl) ?_
    refine lv_iconst (v := 0) hx hb dL_why_46 (by decide) ?_
    obtain ⟨r13, σ14, qr13, hF⟩ := bd_u hF
    refine bz_callV (rest := [.int v3]) (st1 := [.int r13, .int v3]) C h (As := [.int 0]) (o := some (.int r13)) (τ := σ14) (c_X6_count (l := l) ka0 (res := (r13, σ14)) qr13) ka0 (by decide) (ci := 6) rfl (cwV 1 hts (bz_gV wd_16_2 wd_16_3 wd_16_4 wd_1_2 wd_16_5) rfl rfl rfl (by decide +kernel) ⟨Nat.le_of_ble_eq_true rfl, Nat.le_of_ble_eq_true rfl⟩) rfl hl.1 rfl (Nat.le_of_ble_eq_true rfl) ⟨Nat.le_of_ble_eq_true rfl, Nat.le_of_ble_eq_true rfl⟩ dL_why_47 rfl (fun H locs h => ?_)
    refine lv_icmp_ge (tgt := 101) hx hb dL_why_50 (by decide) (fun c15 => ?_) (fun c15 => ?_)
    · have hF := it_t hF c15
      exact hk _ _ H locs ls hF h (lv_sub hl [0, 1] rfl)
    · have hF := it_f hF c15
      refine lv_aload_n hx hb dL_why_53 rfl (lv_at hl 0 rfl) ?_
      refine lv_iload_n hx hb dL_why_54 rfl (lv_at hl 2 rfl) ?_
      refine lv_iconst (v := 5) hx hb dL_why_55 (by decide) ?_
      obtain ⟨r16, σ17, qr16, hF⟩ := bd_u hF
      refine bz_callV (rest := []) (st1 := [.int r16]) C h (As := [.int v3, .int 5]) (o := some (.int r16)) (τ := σ17) (c_X6_motor (l := l) ka0 (res := (r16, σ17)) qr16) ka0 (by decide) (ci := 6) rfl (cwV 2 hts (bz_gV wd_21_4 wd_21_5 wd_21_6 wd_1_2 wd_21_7) rfl rfl rfl (by decide +kernel) ⟨Nat.le_of_ble_eq_true rfl, Nat.le_of_ble_eq_true rfl⟩) rfl hl.1 rfl (by decide) ⟨Nat.le_of_ble_eq_true rfl, Nat.le_of_ble_eq_true rfl⟩ dL_why_56 rfl (fun H locs h => ?_)
      refine lv_istore (lv' := [(4, .int r16), (0, .ref a0), (2, .int v2), (3, .int v3)]) hx hb dL_why_59 hl (by decide) rfl (fun ls hl => ?_)
      refine lv_iload_n hx hb dL_why_61 rfl (lv_at hl 2 rfl) ?_
      refine lv_iload hx hb dL_why_62 (lv_at hl 0 rfl) ?_
      refine lv_iconst (v := 2) hx hb dL_why_64 (by decide) ?_
      obtain ⟨j20, ej20, hF⟩ := lt_j hF
      have hj20 : ∀ (y18 : Int32) (σ19 : bz_W) (H : Heap) (locs : List Loc) (ls : Array Slot), j20 y18 σ19 = some res → bz_H G s σ19 H locs → lv_has ls 5 [(0, .ref a0), (3, .int v3)] → W p l e ({ frames := 4, cells := 0, slots := 0, locals := 86 } : Room) s m args below meth c H locs 0 0 (MQ below (bz_Qc G (some (.int res.1)) res.2) args s 0 0 (bz_A G)) (F0 m 93 ls [.int y18, .int v2]) := by
          intro y18 σ19 H locs ls hF h hl
          subst ej20
          refine lv_iadd hx hb dL_why_93 ?_
          refine lv_topi (fun x21 ex21 => ?_)
          have hF := lt_u hF x21 ex21
          refine lv_istore_n (lv' := [(2, .int x21), (0, .ref a0), (3, .int v3)]) hx hb dL_why_94 rfl hl (by decide) rfl (fun ls hl => ?_)
          obtain ⟨x22, ex22⟩ : ∃ y : Int32, y = v3 + 1 := ⟨_, rfl⟩
          have hF := lt_u hF x22 ex22
          refine lv_iinc (v := x22) (lv' := [(3, .int x22), (2, .int x21), (0, .ref a0)]) hx hb dL_why_95 hl (k := 2) rfl (by rw [ex22]; rfl) (by decide) rfl (fun ls hl => ?_)
          refine lv_goto (tgt := 44) hx hb dL_why_98 (by decide) ?_
          exact ih _ _ _ H locs ls hF h (lv_sub hl [2, 1, 0] rfl) hk
      refine lv_icmp_ne (tgt := 76) hx hb dL_why_65 (by decide) (fun c23 => ?_) (fun c23 => ?_)
      · have hF := it_f hF c23
        refine lv_iload hx hb dL_why_76 (lv_at hl 0 rfl) ?_
        refine lv_iconst (v := 3) hx hb dL_why_78 (by decide) ?_
        refine lv_icmp_ne (tgt := 92) hx hb dL_why_79 (by decide) (fun c24 => ?_) (fun c24 => ?_)
        · have hF := it_f hF c24
          refine lv_iconst (v := 0) hx hb dL_why_92 (by decide) ?_
          exact hj20 _ _ H locs ls hF h (lv_sub hl [1, 3] rfl)
        · have hF := it_t hF c24
          refine lv_aload_n hx hb dL_why_82 rfl (lv_at hl 1 rfl) ?_
          refine lv_iload_n hx hb dL_why_83 rfl (lv_at hl 3 rfl) ?_
          refine lv_bipush (v := 10) hx hb dL_why_84 (by decide) ?_
          obtain ⟨r25, σ26, qr25, hF⟩ := bd_u hF
          refine bz_callV (rest := [.int v2]) (st1 := [.int r25, .int v2]) C h (As := [.int v3, .int 10]) (o := some (.int r25)) (τ := σ26) (c_X6_motor (l := l) ka0 (res := (r25, σ26)) qr25) ka0 (by decide) (ci := 6) rfl (cwV 2 hts (bz_gV wd_21_4 wd_21_5 wd_21_6 wd_1_2 wd_21_7) rfl rfl rfl (by decide +kernel) ⟨Nat.le_of_ble_eq_true rfl, Nat.le_of_ble_eq_true rfl⟩) rfl hl.1 rfl (Nat.le_of_ble_eq_true rfl) ⟨Nat.le_of_ble_eq_true rfl, Nat.le_of_ble_eq_true rfl⟩ dL_why_86 rfl (fun H locs h => ?_)
          refine lv_goto (tgt := 93) hx hb dL_why_89 (by decide) ?_
          exact hj20 _ _ H locs ls hF h (lv_sub hl [1, 3] rfl)
      · have hF := it_t hF c23
        refine lv_aload_n hx hb dL_why_68 rfl (lv_at hl 1 rfl) ?_
        refine lv_iload_n hx hb dL_why_69 rfl (lv_at hl 3 rfl) ?_
        obtain ⟨r27, σ28, qr27, hF⟩ := bd_u hF
        refine bz_callS (rest := [.int v2]) (st1 := [.int r27, .int v2]) C h (As := [.ref a0, .int v3]) (o := some (.int r27)) (τ := σ28) (c_L_peak (l := l) ka0 (res := (r27, σ28)) qr27) (va_cwS 2 hts (bz_gS wd_24_21 wd_24_22 wd_20_14 wd_24_23) rfl rfl rfl (by decide +kernel) ⟨Nat.le_of_ble_eq_true rfl, Nat.le_of_ble_eq_true rfl⟩) rfl hl.1 rfl (Nat.le_of_ble_eq_true rfl) ⟨Nat.le_of_ble_eq_true rfl, Nat.le_of_ble_eq_true rfl⟩ dL_why_70 rfl (fun H locs h => ?_)
        refine lv_goto (tgt := 93) hx hb dL_why_73 (by decide) ?_
        exact hj20 _ _ H locs ls hF h (lv_sub hl [1, 3] rfl)
set_option maxHeartbeats 4000000 in
set_option maxRecDepth 100000 in
theorem c_L_why {l : Launch} {G : bz_G} {σ : bz_W} {a0 : Nat} {x1_ : Int32} (ka0 : bz_k G a0 = (7, 0)) {res : Int32 × bz_W} (hF : f_L_why σ a0 x1_ = some res) : bz_M l yL_why wz_L_why 4 86 G σ [.ref a0, .int x1_] (some (.int res.1)) res.2 := by
  refine bz_mk (cc := cL_why) (maxL := 5) (ret := (some .int)) (own := RL) (by decide) rfl rfl (Nat.le_of_ble_eq_true rfl) ?_
  intro p e s m args below meth c ls C hlocks hr h hl
  have hx := C.1
  have hb := C.2.1
  have hts := C.2.2.2.2.1
  have hl : lv_has ls 5 [(0, .ref a0), (1, .int x1_)] := hl
  obtain ⟨H, eH⟩ : ∃ y, y = s.heap := ⟨_, rfl⟩
  obtain ⟨locs, el⟩ : ∃ y : List Loc, y = [] := ⟨_, rfl⟩
  rw [← el, ← eH] at h ⊢
  unfold f_L_why at hF
  refine lv_aload_n hx hb dL_why_0 rfl (lv_at hl 0 rfl) ?_
  refine lv_iload_n hx hb dL_why_1 rfl (lv_at hl 1 rfl) ?_
  refine lv_bipush (v := 7) hx hb dL_why_2 (by decide) ?_
  obtain ⟨r1, σ2, qr1, hF⟩ := bd_u hF
  refine bz_callV (rest := []) (st1 := [.int r1]) C h (As := [.int x1_, .int 7]) (o := some (.int r1)) (τ := σ2) (c_X6_motor (l := l) ka0 (res := (r1, σ2)) qr1) ka0 (by decide) (ci := 6) rfl (cwV 2 hts (bz_gV wd_21_4 wd_21_5 wd_21_6 wd_1_2 wd_21_7) rfl rfl rfl (by decide +kernel) ⟨Nat.le_of_ble_eq_true rfl, Nat.le_of_ble_eq_true rfl⟩) rfl hl.1 rfl (by decide) ⟨Nat.le_of_ble_eq_true rfl, Nat.le_of_ble_eq_true rfl⟩ dL_why_4 rfl (fun H locs h => ?_)
  refine lv_if_eq (tgt := 12) hx hb dL_why_7 (by decide) (fun c3 => ?_) (fun c3 => ?_)
  · have hF := it_t hF c3
    refine lv_aload_n hx hb dL_why_12 rfl (lv_at hl 0 rfl) ?_
    refine lv_iload_n hx hb dL_why_13 rfl (lv_at hl 1 rfl) ?_
    refine lv_iconst (v := 3) hx hb dL_why_14 (by decide) ?_
    obtain ⟨r4, σ5, qr4, hF⟩ := bd_u hF
    refine bz_callV (rest := []) (st1 := [.int r4]) C h (As := [.int x1_, .int 3]) (o := some (.int r4)) (τ := σ5) (c_X6_motor (l := l) ka0 (res := (r4, σ5)) qr4) ka0 (by decide) (ci := 6) rfl (cwV 2 hts (bz_gV wd_21_4 wd_21_5 wd_21_6 wd_1_2 wd_21_7) rfl rfl rfl (by decide +kernel) ⟨Nat.le_of_ble_eq_true rfl, Nat.le_of_ble_eq_true rfl⟩) rfl hl.1 rfl (by decide) ⟨Nat.le_of_ble_eq_true rfl, Nat.le_of_ble_eq_true rfl⟩ dL_why_15 rfl (fun H locs h => ?_)
    refine lv_aload_n hx hb dL_why_18 rfl (lv_at hl 0 rfl) ?_
    refine lv_iload_n hx hb dL_why_19 rfl (lv_at hl 1 rfl) ?_
    refine lv_bipush (v := 6) hx hb dL_why_20 (by decide) ?_
    obtain ⟨r6, σ7, qr6, hF⟩ := bd_u hF
    refine bz_callV (rest := [.int r4]) (st1 := [.int r6, .int r4]) C h (As := [.int x1_, .int 6]) (o := some (.int r6)) (τ := σ7) (c_X6_motor (l := l) ka0 (res := (r6, σ7)) qr6) ka0 (by decide) (ci := 6) rfl (cwV 2 hts (bz_gV wd_21_4 wd_21_5 wd_21_6 wd_1_2 wd_21_7) rfl rfl rfl (by decide +kernel) ⟨Nat.le_of_ble_eq_true rfl, Nat.le_of_ble_eq_true rfl⟩) rfl hl.1 rfl (Nat.le_of_ble_eq_true rfl) ⟨Nat.le_of_ble_eq_true rfl, Nat.le_of_ble_eq_true rfl⟩ dL_why_22 rfl (fun H locs h => ?_)
    refine lv_isub hx hb dL_why_25 ?_
    refine lv_aload_n hx hb dL_why_26 rfl (lv_at hl 0 rfl) ?_
    refine lv_iload_n hx hb dL_why_27 rfl (lv_at hl 1 rfl) ?_
    obtain ⟨r8, σ9, qr8, hF⟩ := bd_u hF
    refine bz_callV (rest := [.int (r4 - r6)]) (st1 := [.int r8, .int (r4 - r6)]) C h (As := [.int x1_]) (o := some (.int r8)) (τ := σ9) (c_X6_startHeat (l := l) ka0 (res := (r8, σ9)) qr8) ka0 (by decide) (ci := 6) rfl (cwV 1 hts (bz_gV wd_24_13 wd_24_14 wd_24_15 wd_1_2 wd_24_16) rfl rfl rfl (by decide +kernel) ⟨Nat.le_of_ble_eq_true rfl, Nat.le_of_ble_eq_true rfl⟩) rfl hl.1 rfl (Nat.le_of_ble_eq_true rfl) ⟨Nat.le_of_ble_eq_true rfl, Nat.le_of_ble_eq_true rfl⟩ dL_why_28 rfl (fun H locs h => ?_)
    refine lv_icmp_ge (tgt := 36) hx hb dL_why_31 (by decide) (fun c10 => ?_) (fun c10 => ?_)
    · have hF := it_t hF c10
      refine lv_aload_n hx hb dL_why_36 rfl (lv_at hl 0 rfl) ?_
      refine lv_iload_n hx hb dL_why_37 rfl (lv_at hl 1 rfl) ?_
      obtain ⟨r11, σ12, qr11, hF⟩ := bd_u hF
      refine bz_callS (rest := []) (st1 := [.int r11]) C h (As := [.ref a0, .int x1_]) (o := some (.int r11)) (τ := σ12) (c_L_peak (l := l) ka0 (res := (r11, σ12)) qr11) (va_cwS 2 hts (bz_gS wd_24_21 wd_24_22 wd_20_14 wd_24_23) rfl rfl rfl (by decide +kernel) ⟨Nat.le_of_ble_eq_true rfl, Nat.le_of_ble_eq_true rfl⟩) rfl hl.1 rfl (by decide) ⟨Nat.le_of_ble_eq_true rfl, Nat.le_of_ble_eq_true rfl⟩ dL_why_38 rfl (fun H locs h => ?_)
      refine lv_istore_n (lv' := [(2, .int r11), (0, .ref a0), (1, .int x1_)]) hx hb dL_why_41 rfl hl (by decide) rfl (fun ls hl => ?_)
      refine lv_iconst (v := 0) hx hb dL_why_42 (by decide) ?_
      refine lv_istore_n (lv' := [(3, .int 0), (2, .int r11), (0, .ref a0), (1, .int x1_)]) hx hb dL_why_43 rfl hl (by decide) rfl (fun ls hl => ?_)
      refine L_L_why_L44 C hlocks hr ka0 _ _ _ _ H locs ls hF h (lv_sub hl [2, 1, 0] rfl) ?_
      intro x29 σ30 H locs ls hF h hl
      refine lv_iload_n hx hb dL_why_101 rfl (lv_at hl 1 rfl) ?_
      refine lv_aload_n hx hb dL_why_102 rfl (lv_at hl 0 rfl) ?_
      refine lv_bipush (v := 6) hx hb dL_why_103 (by decide) ?_
      obtain ⟨r31, σ32, qr31, hF⟩ := bd_u hF
      refine bz_callV (rest := [.int x29]) (st1 := [.int r31, .int x29]) C h (As := [.int 6]) (o := some (.int r31)) (τ := σ32) (c_X6_count (l := l) ka0 (res := (r31, σ32)) qr31) ka0 (by decide) (ci := 6) rfl (cwV 1 hts (bz_gV wd_16_2 wd_16_3 wd_16_4 wd_1_2 wd_16_5) rfl rfl rfl (by decide +kernel) ⟨Nat.le_of_ble_eq_true rfl, Nat.le_of_ble_eq_true rfl⟩) rfl hl.1 rfl (Nat.le_of_ble_eq_true rfl) ⟨Nat.le_of_ble_eq_true rfl, Nat.le_of_ble_eq_true rfl⟩ dL_why_105 rfl (fun H locs h => ?_)
      refine lv_icmp_le (tgt := 115) hx hb dL_why_108 (by decide) (fun c33 => ?_) (fun c33 => ?_)
      · have hF := it_t hF c33
        refine lv_iconst (v := 0) hx hb dL_why_115 (by decide) ?_
        exact bz_iret C h hlocks hr hF dL_why_116
      · have hF := it_f hF c33
        refine lv_iconst (v := 3) hx hb dL_why_111 (by decide) ?_
        refine lv_goto (tgt := 116) hx hb dL_why_112 (by decide) ?_
        exact bz_iret C h hlocks hr hF dL_why_116
    · have hF := it_f hF c10
      refine lv_iconst (v := 2) hx hb dL_why_34 (by decide) ?_
      exact bz_iret C h hlocks hr hF dL_why_35
  · have hF := it_f hF c3
    refine lv_iconst (v := 4) hx hb dL_why_10 (by decide) ?_
    exact bz_iret C h hlocks hr hF dL_why_11
set_option maxHeartbeats 4000000 in
set_option maxRecDepth 100000 in
theorem c_L_urgency {l : Launch} {G : bz_G} {σ : bz_W} {a0 : Nat} {x1_ : Int32} (ka0 : bz_k G a0 = (7, 0)) {res : Int32 × bz_W} (hF : f_L_urgency σ a0 x1_ = some res) : bz_M l yL_urgency wz_L_urgency 3 65 G σ [.ref a0, .int x1_] (some (.int res.1)) res.2 := by
  refine bz_mk (cc := cL_urgency) (maxL := 2) (ret := (some .int)) (own := RL) (by decide) rfl rfl (Nat.le_of_ble_eq_true rfl) ?_
  intro p e s m args below meth c ls C hlocks hr h hl
  have hx := C.1
  have hb := C.2.1
  have hts := C.2.2.2.2.1
  have hl : lv_has ls 2 [(0, .ref a0), (1, .int x1_)] := hl
  obtain ⟨H, eH⟩ : ∃ y, y = s.heap := ⟨_, rfl⟩
  obtain ⟨locs, el⟩ : ∃ y : List Loc, y = [] := ⟨_, rfl⟩
  rw [← el, ← eH] at h ⊢
  unfold f_L_urgency at hF
  refine lv_aload_n hx hb dL_urgency_0 rfl (lv_at hl 0 rfl) ?_
  refine lv_iload_n hx hb dL_urgency_1 rfl (lv_at hl 1 rfl) ?_
  refine lv_iconst (v := 4) hx hb dL_urgency_2 (by decide) ?_
  obtain ⟨r1, σ2, qr1, hF⟩ := bd_u hF
  refine bz_callV (rest := []) (st1 := [.int r1]) C h (As := [.int x1_, .int 4]) (o := some (.int r1)) (τ := σ2) (c_X6_motor (l := l) ka0 (res := (r1, σ2)) qr1) ka0 (by decide) (ci := 6) rfl (cwV 2 hts (bz_gV wd_21_4 wd_21_5 wd_21_6 wd_1_2 wd_21_7) rfl rfl rfl (by decide +kernel) ⟨Nat.le_of_ble_eq_true rfl, Nat.le_of_ble_eq_true rfl⟩) rfl hl.1 rfl (by decide) ⟨Nat.le_of_ble_eq_true rfl, Nat.le_of_ble_eq_true rfl⟩ dL_urgency_3 rfl (fun H locs h => ?_)
  refine lv_aload_n hx hb dL_urgency_6 rfl (lv_at hl 0 rfl) ?_
  refine lv_iload_n hx hb dL_urgency_7 rfl (lv_at hl 1 rfl) ?_
  refine lv_bipush (v := 9) hx hb dL_urgency_8 (by decide) ?_
  obtain ⟨r3, σ4, qr3, hF⟩ := bd_u hF
  refine bz_callV (rest := [.int r1]) (st1 := [.int r3, .int r1]) C h (As := [.int x1_, .int 9]) (o := some (.int r3)) (τ := σ4) (c_X6_motor (l := l) ka0 (res := (r3, σ4)) qr3) ka0 (by decide) (ci := 6) rfl (cwV 2 hts (bz_gV wd_21_4 wd_21_5 wd_21_6 wd_1_2 wd_21_7) rfl rfl rfl (by decide +kernel) ⟨Nat.le_of_ble_eq_true rfl, Nat.le_of_ble_eq_true rfl⟩) rfl hl.1 rfl (Nat.le_of_ble_eq_true rfl) ⟨Nat.le_of_ble_eq_true rfl, Nat.le_of_ble_eq_true rfl⟩ dL_urgency_10 rfl (fun H locs h => ?_)
  refine lv_bipush (v := 10) hx hb dL_urgency_13 (by decide) ?_
  refine lv_idiv hx hb dL_urgency_15 (by decide) ?_
  refine lv_iadd hx hb dL_urgency_16 ?_
  exact bz_iret C h hlocks hr hF dL_urgency_17
set_option maxHeartbeats 4000000 in
set_option maxRecDepth 100000 in
theorem L_L_lines_L10 {p : Program} {l : Launch} {e : Env} {s : State} {m : MethodId} {args : Array Value} {below : List Frame} {meth : Method} {c : Code} {G : bz_G} (C : bz_C p s m c args cL_lines 8 RL wz_L_lines G) (hlocks : meth.locks = false) (hr : meth.sig.returnType = (some .boolean)) {a0 : Nat} {a2 : Int32} (ka0 : bz_k G a0 = (7, 0)) {k : bz_W → Option (Int32 × bz_W)} {res : Int32 × bz_W} : ∀ (n : Nat) (v1 : Int32) (v3 : Int32) (σ : bz_W) (H : Heap) (locs : List Loc) (ls : Array Slot), f_L_lines_L10 a0 a2 k n v1 v3 σ = some res → bz_H G s σ H locs → lv_has ls 8 [(0, .ref a0), (2, .int a2), (1, .int v1), (3, .int v3)] → (∀ (σ : bz_W) (H : Heap) (locs : List Loc) (ls : Array Slot), k σ = some res → bz_H G s σ H locs → lv_has ls 8 [(0, .ref a0), (2, .int a2)] → W p l e ({ frames := 4, cells := 0, slots := 0, locals := 92 } : Room) s m args below meth c H locs 0 0 (MQ below (bz_Qc G (some (.int res.1)) res.2) args s 0 0 (bz_A G)) (F0 m 149 ls [])) → W p l e ({ frames := 4, cells := 0, slots := 0, locals := 92 } : Room) s m args below meth c H locs 0 0 (MQ below (bz_Qc G (some (.int res.1)) res.2) args s 0 0 (bz_A G)) (F0 m 10 ls []) := by
  have hx := C.1
  have hb := C.2.1
  have hts := C.2.2.2.2.1
  intro n
  induction n with
  | zero =>
    intro v1 v3 σ H locs ls hF
    exact absurd hF (by simp [f_L_lines_L10])
  | succ n ih =>
    intro v1 v3 σ H locs ls hF h hl hk
    rw [f_L_lines_L10] at hF
    refine lv_iload_n hx hb dL_lines_10 rfl (lv_at hl 3 rfl) ?_
    refine lv_iload_n hx hb dL_lines_11 rfl (lv_at hl 1 rfl) ?_
    refine lv_icmp_ge (tgt := 149) hx hb dL_lines_12 (by decide) (fun c3 => ?_) (fun c3 => ?_)
    · have hF := it_t hF c3
      exact hk _ H locs ls hF h (lv_sub hl [0, 1] rfl)
    · have hF := it_f hF c3
      refine lv_aload_n hx hb dL_lines_15 rfl (lv_at hl 0 rfl) ?_
      refine lv_iload_n hx hb dL_lines_16 rfl (lv_at hl 3 rfl) ?_
      obtain ⟨r4, σ5, qr4, hF⟩ := bd_u hF
      refine bz_callV (rest := []) (st1 := [.int r4]) C h (As := [.int v3]) (o := some (.int r4)) (τ := σ5) (c_X6_queue (l := l) ka0 (res := (r4, σ5)) qr4) ka0 (by decide) (ci := 6) rfl (cwV 1 hts (bz_gV wd_7_1 wd_7_2 wd_7_3 wd_1_2 wd_7_4) rfl rfl rfl (by decide +kernel) ⟨Nat.le_of_ble_eq_true rfl, Nat.le_of_ble_eq_true rfl⟩) rfl hl.1 rfl (by decide) ⟨Nat.le_of_ble_eq_true rfl, Nat.le_of_ble_eq_true rfl⟩ dL_lines_17 rfl (fun H locs h => ?_)
      refine lv_istore (lv' := [(4, .int r4), (0, .ref a0), (2, .int a2), (1, .int v1), (3, .int v3)]) hx hb dL_lines_20 hl (by decide) rfl (fun ls hl => ?_)
      refine lv_iload hx hb dL_lines_22 (lv_at hl 0 rfl) ?_
      refine lv_if_lt (tgt := 48) hx hb dL_lines_24 (by decide) (fun c6 => ?_) (fun c6 => ?_)
      · have hF := it_t hF c6
        refine lv_iconst (v := 0) hx hb dL_lines_48 (by decide) ?_
        exact bz_zret C h hlocks hr (by decide) hF dL_lines_49
      · have hF := it_f hF c6
        refine lv_iload_n hx hb dL_lines_27 rfl (lv_at hl 3 rfl) ?_
        refine lv_iload hx hb dL_lines_28 (lv_at hl 0 rfl) ?_
        refine lv_ishr hx hb dL_lines_30 ?_
        refine lv_iconst (v := 1) hx hb dL_lines_31 (by decide) ?_
        refine lv_iand hx hb dL_lines_32 ?_
        refine lv_iconst (v := 1) hx hb dL_lines_33 (by decide) ?_
        refine lv_icmp_eq (tgt := 48) hx hb dL_lines_34 (by decide) (fun c7 => ?_) (fun c7 => ?_)
        · have hF := it_t hF c7
          refine lv_iconst (v := 0) hx hb dL_lines_48 (by decide) ?_
          exact bz_zret C h hlocks hr (by decide) hF dL_lines_49
        · have hF := it_f hF c7
          refine lv_aload_n hx hb dL_lines_37 rfl (lv_at hl 1 rfl) ?_
          refine lv_iload hx hb dL_lines_38 (lv_at hl 0 rfl) ?_
          refine lv_iconst (v := 5) hx hb dL_lines_40 (by decide) ?_
          obtain ⟨r8, σ9, qr8, hF⟩ := bd_u hF
          refine bz_callV (rest := []) (st1 := [.int r8]) C h (As := [.int r4, .int 5]) (o := some (.int r8)) (τ := σ9) (c_X6_motor (l := l) ka0 (res := (r8, σ9)) qr8) ka0 (by decide) (ci := 6) rfl (cwV 2 hts (bz_gV wd_21_4 wd_21_5 wd_21_6 wd_1_2 wd_21_7) rfl rfl rfl (by decide +kernel) ⟨Nat.le_of_ble_eq_true rfl, Nat.le_of_ble_eq_true rfl⟩) rfl hl.1 rfl (by decide) ⟨Nat.le_of_ble_eq_true rfl, Nat.le_of_ble_eq_true rfl⟩ dL_lines_41 rfl (fun H locs h => ?_)
          refine lv_iconst (v := 1) hx hb dL_lines_44 (by decide) ?_
          refine lv_icmp_eq (tgt := 50) hx hb dL_lines_45 (by decide) (fun c10 => ?_) (fun c10 => ?_)
          · have hF := it_t hF c10
            refine lv_iload_n hx hb dL_lines_50 rfl (lv_at hl 3 rfl) ?_
            refine lv_iconst (v := 1) hx hb dL_lines_51 (by decide) ?_
            refine lv_iload hx hb dL_lines_52 (lv_at hl 0 rfl) ?_
            refine lv_ishl hx hb dL_lines_54 ?_
            refine lv_ior hx hb dL_lines_55 ?_
            refine lv_topi (fun x11 ex11 => ?_)
            have hF := lt_u hF x11 ex11
            refine lv_istore_n (lv' := [(1, .int x11), (4, .int r4), (0, .ref a0), (2, .int a2), (3, .int v3)]) hx hb dL_lines_56 rfl hl (by decide) rfl (fun ls hl => ?_)
            refine lv_iload_n hx hb dL_lines_57 rfl (lv_at hl 4 rfl) ?_
            obtain ⟨j14, ej14, hF⟩ := lt_j hF
            have hj14 : ∀ (y12 : Int32) (σ13 : bz_W) (H : Heap) (locs : List Loc) (ls : Array Slot), j14 y12 σ13 = some res → bz_H G s σ13 H locs → lv_has ls 8 [(0, .ref a0), (1, .int x11), (2, .int a2), (3, .int v3), (4, .int r4)] → W p l e ({ frames := 4, cells := 0, slots := 0, locals := 92 } : Room) s m args below meth c H locs 0 0 (MQ below (bz_Qc G (some (.int res.1)) res.2) args s 0 0 (bz_A G)) (F0 m 73 ls [.int y12]) := by
                intro y12 σ13 H locs ls hF h hl
                subst ej14
                refine lv_istore (lv' := [(5, .int y12), (0, .ref a0), (1, .int x11), (2, .int a2), (3, .int v3), (4, .int r4)]) hx hb dL_lines_73 hl (by decide) rfl (fun ls hl => ?_)
                refine lv_aload_n hx hb dL_lines_75 rfl (lv_at hl 1 rfl) ?_
                refine lv_iload hx hb dL_lines_76 (lv_at hl 0 rfl) ?_
                obtain ⟨r15, σ16, qr15, hF⟩ := bd_u hF
                refine bz_callS (rest := []) (st1 := [.int r15]) C h (As := [.ref a0, .int y12]) (o := some (.int r15)) (τ := σ16) (c_L_urgency (l := l) ka0 (res := (r15, σ16)) qr15) (va_cwS 2 hts (bz_gS wd_25_6 wd_25_7 wd_20_14 wd_25_8) rfl rfl rfl (by decide +kernel) ⟨Nat.le_of_ble_eq_true rfl, Nat.le_of_ble_eq_true rfl⟩) rfl hl.1 rfl (by decide) ⟨Nat.le_of_ble_eq_true rfl, Nat.le_of_ble_eq_true rfl⟩ dL_lines_78 rfl (fun H locs h => ?_)
                refine lv_aload_n hx hb dL_lines_81 rfl (lv_at hl 1 rfl) ?_
                refine lv_iload hx hb dL_lines_82 (lv_at hl 5 rfl) ?_
                obtain ⟨r17, σ18, qr17, hF⟩ := bd_u hF
                refine bz_callS (rest := [.int r15]) (st1 := [.int r17, .int r15]) C h (As := [.ref a0, .int r4]) (o := some (.int r17)) (τ := σ18) (c_L_urgency (l := l) ka0 (res := (r17, σ18)) qr17) (va_cwS 2 hts (bz_gS wd_25_6 wd_25_7 wd_20_14 wd_25_8) rfl rfl rfl (by decide +kernel) ⟨Nat.le_of_ble_eq_true rfl, Nat.le_of_ble_eq_true rfl⟩) rfl hl.1 rfl (Nat.le_of_ble_eq_true rfl) ⟨Nat.le_of_ble_eq_true rfl, Nat.le_of_ble_eq_true rfl⟩ dL_lines_84 rfl (fun H locs h => ?_)
                refine lv_isub hx hb dL_lines_87 ?_
                refine lv_topi (fun x19 ex19 => ?_)
                have hF := lt_u hF x19 ex19
                refine lv_istore (lv' := [(6, .int x19), (5, .int y12), (0, .ref a0), (1, .int x11), (2, .int a2), (3, .int v3), (4, .int r4)]) hx hb dL_lines_88 hl (by decide) rfl (fun ls hl => ?_)
                refine lv_aload_n hx hb dL_lines_90 rfl (lv_at hl 2 rfl) ?_
                refine lv_iload hx hb dL_lines_91 (lv_at hl 1 rfl) ?_
                refine lv_bipush (v := 9) hx hb dL_lines_93 (by decide) ?_
                obtain ⟨r20, σ21, qr20, hF⟩ := bd_u hF
                refine bz_callV (rest := []) (st1 := [.int r20]) C h (As := [.int y12, .int 9]) (o := some (.int r20)) (τ := σ21) (c_X6_motor (l := l) ka0 (res := (r20, σ21)) qr20) ka0 (by decide) (ci := 6) rfl (cwV 2 hts (bz_gV wd_21_4 wd_21_5 wd_21_6 wd_1_2 wd_21_7) rfl rfl rfl (by decide +kernel) ⟨Nat.le_of_ble_eq_true rfl, Nat.le_of_ble_eq_true rfl⟩) rfl hl.1 rfl (by decide) ⟨Nat.le_of_ble_eq_true rfl, Nat.le_of_ble_eq_true rfl⟩ dL_lines_95 rfl (fun H locs h => ?_)
                refine lv_aload_n hx hb dL_lines_98 rfl (lv_at hl 2 rfl) ?_
                refine lv_iload hx hb dL_lines_99 (lv_at hl 6 rfl) ?_
                refine lv_bipush (v := 9) hx hb dL_lines_101 (by decide) ?_
                obtain ⟨r22, σ23, qr22, hF⟩ := bd_u hF
                refine bz_callV (rest := [.int r20]) (st1 := [.int r22, .int r20]) C h (As := [.int r4, .int 9]) (o := some (.int r22)) (τ := σ23) (c_X6_motor (l := l) ka0 (res := (r22, σ23)) qr22) ka0 (by decide) (ci := 6) rfl (cwV 2 hts (bz_gV wd_21_4 wd_21_5 wd_21_6 wd_1_2 wd_21_7) rfl rfl rfl (by decide +kernel) ⟨Nat.le_of_ble_eq_true rfl, Nat.le_of_ble_eq_true rfl⟩) rfl hl.1 rfl (Nat.le_of_ble_eq_true rfl) ⟨Nat.le_of_ble_eq_true rfl, Nat.le_of_ble_eq_true rfl⟩ dL_lines_103 rfl (fun H locs h => ?_)
                refine lv_isub hx hb dL_lines_106 ?_
                refine lv_topi (fun x24 ex24 => ?_)
                have hF := lt_u hF x24 ex24
                refine lv_istore (lv' := [(7, .int x24), (6, .int x19), (5, .int y12), (0, .ref a0), (1, .int x11), (2, .int a2), (3, .int v3), (4, .int r4)]) hx hb dL_lines_107 hl (by decide) rfl (fun ls hl => ?_)
                refine lv_iload hx hb dL_lines_109 (lv_at hl 1 rfl) ?_
                refine lv_if_lt (tgt := 141) hx hb dL_lines_111 (by decide) (fun c25 => ?_) (fun c25 => ?_)
                · have hF := it_t hF c25
                  refine lv_iconst (v := 0) hx hb dL_lines_141 (by decide) ?_
                  exact bz_zret C h hlocks hr (by decide) hF dL_lines_142
                · have hF := it_f hF c25
                  refine lv_iload hx hb dL_lines_114 (lv_at hl 1 rfl) ?_
                  obtain ⟨j27, ej27, hF⟩ := lt_j hF
                  have hj27 : ∀ (σ26 : bz_W) (H : Heap) (locs : List Loc) (ls : Array Slot), j27 σ26 = some res → bz_H G s σ26 H locs → lv_has ls 8 [(0, .ref a0), (1, .int x11), (2, .int a2), (3, .int v3), (4, .int r4), (5, .int y12), (6, .int x19), (7, .int x24)] → W p l e ({ frames := 4, cells := 0, slots := 0, locals := 92 } : Room) s m args below meth c H locs 0 0 (MQ below (bz_Qc G (some (.int res.1)) res.2) args s 0 0 (bz_A G)) (F0 m 124 ls []) := by
                      intro σ26 H locs ls hF h hl
                      subst ej27
                      refine lv_iload hx hb dL_lines_124 (lv_at hl 6 rfl) ?_
                      obtain ⟨j29, ej29, hF⟩ := lt_j hF
                      have hj29 : ∀ (σ28 : bz_W) (H : Heap) (locs : List Loc) (ls : Array Slot), j29 σ28 = some res → bz_H G s σ28 H locs → lv_has ls 8 [(0, .ref a0), (1, .int x11), (2, .int a2), (3, .int v3)] → W p l e ({ frames := 4, cells := 0, slots := 0, locals := 92 } : Room) s m args below meth c H locs 0 0 (MQ below (bz_Qc G (some (.int res.1)) res.2) args s 0 0 (bz_A G)) (F0 m 143 ls []) := by
                          intro σ28 H locs ls hF h hl
                          subst ej29
                          obtain ⟨x30, ex30⟩ : ∃ y : Int32, y = v3 + 1 := ⟨_, rfl⟩
                          have hF := lt_u hF x30 ex30
                          refine lv_iinc (v := x30) (lv' := [(3, .int x30), (0, .ref a0), (1, .int x11), (2, .int a2)]) hx hb dL_lines_143 hl (k := 3) rfl (by rw [ex30]; rfl) (by decide) rfl (fun ls hl => ?_)
                          refine lv_goto (tgt := 10) hx hb dL_lines_146 (by decide) ?_
                          exact ih _ _ _ H locs ls hF h (lv_sub hl [1, 3, 2, 0] rfl) hk
                      refine lv_if_ne (tgt := 143) hx hb dL_lines_126 (by decide) (fun c31 => ?_) (fun c31 => ?_)
                      · have hF := it_f hF c31
                        exact hj29 _ H locs ls hF h (lv_sub hl [0, 1, 2, 3] rfl)
                      · have hF := it_t hF c31
                        refine lv_iload hx hb dL_lines_129 (lv_at hl 7 rfl) ?_
                        refine lv_if_ne (tgt := 143) hx hb dL_lines_131 (by decide) (fun c32 => ?_) (fun c32 => ?_)
                        · have hF := it_f hF c32
                          exact hj29 _ H locs ls hF h (lv_sub hl [0, 1, 2, 3] rfl)
                        · have hF := it_t hF c32
                          refine lv_iload hx hb dL_lines_134 (lv_at hl 5 rfl) ?_
                          refine lv_iload hx hb dL_lines_136 (lv_at hl 4 rfl) ?_
                          refine lv_icmp_le (tgt := 143) hx hb dL_lines_138 (by decide) (fun c33 => ?_) (fun c33 => ?_)
                          · have hF := it_t hF c33
                            exact hj29 _ H locs ls hF h (lv_sub hl [0, 1, 2, 3] rfl)
                          · have hF := it_f hF c33
                            refine lv_iconst (v := 0) hx hb dL_lines_141 (by decide) ?_
                            exact bz_zret C h hlocks hr (by decide) hF dL_lines_142
                  refine lv_if_ne (tgt := 124) hx hb dL_lines_116 (by decide) (fun c34 => ?_) (fun c34 => ?_)
                  · have hF := it_f hF c34
                    exact hj27 _ H locs ls hF h (lv_sub hl [3, 4, 5, 6, 7, 2, 1, 0] rfl)
                  · have hF := it_t hF c34
                    refine lv_iload hx hb dL_lines_119 (lv_at hl 0 rfl) ?_
                    refine lv_if_lt (tgt := 141) hx hb dL_lines_121 (by decide) (fun c35 => ?_) (fun c35 => ?_)
                    · have hF := it_t hF c35
                      refine lv_iconst (v := 0) hx hb dL_lines_141 (by decide) ?_
                      exact bz_zret C h hlocks hr (by decide) hF dL_lines_142
                    · have hF := it_f hF c35
                      exact hj27 _ H locs ls hF h (lv_sub hl [3, 4, 5, 6, 7, 2, 1, 0] rfl)
            refine lv_if_le (tgt := 71) hx hb dL_lines_58 (by decide) (fun c36 => ?_) (fun c36 => ?_)
            · have hF := it_t hF c36
              refine lv_iload hx hb dL_lines_71 (lv_at hl 1 rfl) ?_
              exact hj14 _ _ H locs ls hF h (lv_sub hl [2, 0, 3, 4, 1] rfl)
            · have hF := it_f hF c36
              refine lv_aload_n hx hb dL_lines_61 rfl (lv_at hl 2 rfl) ?_
              refine lv_iload_n hx hb dL_lines_62 rfl (lv_at hl 4 rfl) ?_
              refine lv_iconst (v := 1) hx hb dL_lines_63 (by decide) ?_
              refine lv_isub hx hb dL_lines_64 ?_
              obtain ⟨r37, σ38, qr37, hF⟩ := bd_u hF
              refine bz_callV (rest := []) (st1 := [.int r37]) C h (As := [.int (v3 - 1)]) (o := some (.int r37)) (τ := σ38) (c_X6_queue (l := l) ka0 (res := (r37, σ38)) qr37) ka0 (by decide) (ci := 6) rfl (cwV 1 hts (bz_gV wd_7_1 wd_7_2 wd_7_3 wd_1_2 wd_7_4) rfl rfl rfl (by decide +kernel) ⟨Nat.le_of_ble_eq_true rfl, Nat.le_of_ble_eq_true rfl⟩) rfl hl.1 rfl (by decide) ⟨Nat.le_of_ble_eq_true rfl, Nat.le_of_ble_eq_true rfl⟩ dL_lines_65 rfl (fun H locs h => ?_)
              refine lv_goto (tgt := 73) hx hb dL_lines_68 (by decide) ?_
              exact hj14 _ _ H locs ls hF h (lv_sub hl [2, 0, 3, 4, 1] rfl)
          · have hF := it_f hF c10
            refine lv_iconst (v := 0) hx hb dL_lines_48 (by decide) ?_
            exact bz_zret C h hlocks hr (by decide) hF dL_lines_49
set_option maxHeartbeats 4000000 in
set_option maxRecDepth 100000 in
theorem c_L_lines {l : Launch} {G : bz_G} {σ : bz_W} {a0 : Nat} (ka0 : bz_k G a0 = (7, 0)) {res : Int32 × bz_W} (hF : f_L_lines σ a0 = some res) : bz_M l yL_lines wz_L_lines 4 92 G σ [.ref a0] (some (.int res.1)) res.2 := by
  refine bz_mk (cc := cL_lines) (maxL := 8) (ret := (some .boolean)) (own := RL) (by decide) rfl rfl (Nat.le_of_ble_eq_true rfl) ?_
  intro p e s m args below meth c ls C hlocks hr h hl
  have hx := C.1
  have hb := C.2.1
  have hts := C.2.2.2.2.1
  have hl : lv_has ls 8 [(0, .ref a0)] := hl
  obtain ⟨H, eH⟩ : ∃ y, y = s.heap := ⟨_, rfl⟩
  obtain ⟨locs, el⟩ : ∃ y : List Loc, y = [] := ⟨_, rfl⟩
  rw [← el, ← eH] at h ⊢
  unfold f_L_lines at hF
  refine lv_iconst (v := 0) hx hb dL_lines_0 (by decide) ?_
  refine lv_istore_n (lv' := [(1, .int 0), (0, .ref a0)]) hx hb dL_lines_1 rfl hl (by decide) rfl (fun ls hl => ?_)
  refine lv_aload_n hx hb dL_lines_2 rfl (lv_at hl 1 rfl) ?_
  refine lv_iconst (v := 1) hx hb dL_lines_3 (by decide) ?_
  obtain ⟨r1, σ2, qr1, hF⟩ := bd_u hF
  refine bz_callV (rest := []) (st1 := [.int r1]) C h (As := [.int 1]) (o := some (.int r1)) (τ := σ2) (c_X6_count (l := l) ka0 (res := (r1, σ2)) qr1) ka0 (by decide) (ci := 6) rfl (cwV 1 hts (bz_gV wd_16_2 wd_16_3 wd_16_4 wd_1_2 wd_16_5) rfl rfl rfl (by decide +kernel) ⟨Nat.le_of_ble_eq_true rfl, Nat.le_of_ble_eq_true rfl⟩) rfl hl.1 rfl (by decide) ⟨Nat.le_of_ble_eq_true rfl, Nat.le_of_ble_eq_true rfl⟩ dL_lines_4 rfl (fun H locs h => ?_)
  refine lv_istore_n (lv' := [(2, .int r1), (1, .int 0), (0, .ref a0)]) hx hb dL_lines_7 rfl hl (by decide) rfl (fun ls hl => ?_)
  refine lv_iconst (v := 0) hx hb dL_lines_8 (by decide) ?_
  refine lv_istore_n (lv' := [(3, .int 0), (2, .int r1), (1, .int 0), (0, .ref a0)]) hx hb dL_lines_9 rfl hl (by decide) rfl (fun ls hl => ?_)
  refine L_L_lines_L10 C hlocks hr ka0 _ _ _ _ H locs ls hF h (lv_sub hl [3, 1, 2, 0] rfl) ?_
  intro σ39 H locs ls hF h hl
  refine lv_aload_n hx hb dL_lines_149 rfl (lv_at hl 0 rfl) ?_
  refine lv_iload_n hx hb dL_lines_150 rfl (lv_at hl 1 rfl) ?_
  obtain ⟨r40, σ41, qr40, hF⟩ := bd_u hF
  refine bz_callV (rest := []) (st1 := [.int r40]) C h (As := [.int r1]) (o := some (.int r40)) (τ := σ41) (c_X6_queue (l := l) ka0 (res := (r40, σ41)) qr40) ka0 (by decide) (ci := 6) rfl (cwV 1 hts (bz_gV wd_7_1 wd_7_2 wd_7_3 wd_1_2 wd_7_4) rfl rfl rfl (by decide +kernel) ⟨Nat.le_of_ble_eq_true rfl, Nat.le_of_ble_eq_true rfl⟩) rfl hl.1 rfl (by decide) ⟨Nat.le_of_ble_eq_true rfl, Nat.le_of_ble_eq_true rfl⟩ dL_lines_151 rfl (fun H locs h => ?_)
  refine lv_bipush (v := (-4)) hx hb dL_lines_154 (by decide) ?_
  refine lv_icmp_ne (tgt := 173) hx hb dL_lines_156 (by decide) (fun c42 => ?_) (fun c42 => ?_)
  · have hF := it_f hF c42
    refine lv_iconst (v := 0) hx hb dL_lines_173 (by decide) ?_
    exact bz_zret C h hlocks hr (by decide) hF dL_lines_174
  · have hF := it_t hF c42
    refine lv_aload_n hx hb dL_lines_159 rfl (lv_at hl 0 rfl) ?_
    refine lv_iconst (v := (-1)) hx hb dL_lines_160 (by decide) ?_
    obtain ⟨r43, σ44, qr43, hF⟩ := bd_u hF
    refine bz_callV (rest := []) (st1 := [.int r43]) C h (As := [.int (-1)]) (o := some (.int r43)) (τ := σ44) (c_X6_queue (l := l) ka0 (res := (r43, σ44)) qr43) ka0 (by decide) (ci := 6) rfl (cwV 1 hts (bz_gV wd_7_1 wd_7_2 wd_7_3 wd_1_2 wd_7_4) rfl rfl rfl (by decide +kernel) ⟨Nat.le_of_ble_eq_true rfl, Nat.le_of_ble_eq_true rfl⟩) rfl hl.1 rfl (by decide) ⟨Nat.le_of_ble_eq_true rfl, Nat.le_of_ble_eq_true rfl⟩ dL_lines_161 rfl (fun H locs h => ?_)
    refine lv_bipush (v := (-2)) hx hb dL_lines_164 (by decide) ?_
    refine lv_icmp_ne (tgt := 173) hx hb dL_lines_166 (by decide) (fun c45 => ?_) (fun c45 => ?_)
    · have hF := it_f hF c45
      refine lv_iconst (v := 0) hx hb dL_lines_173 (by decide) ?_
      exact bz_zret C h hlocks hr (by decide) hF dL_lines_174
    · have hF := it_t hF c45
      refine lv_iconst (v := 1) hx hb dL_lines_169 (by decide) ?_
      refine lv_goto (tgt := 174) hx hb dL_lines_170 (by decide) ?_
      exact bz_zret C h hlocks hr (by decide) hF dL_lines_174
set_option maxHeartbeats 4000000 in
set_option maxRecDepth 100000 in
theorem L_L_sound_L12 {p : Program} {l : Launch} {e : Env} {s : State} {m : MethodId} {args : Array Value} {below : List Frame} {meth : Method} {c : Code} {G : bz_G} (C : bz_C p s m c args cL_sound 8 RL wz_L_sound G) (hlocks : meth.locks = false) (hr : meth.sig.returnType = (some .boolean)) {a0 : Nat} {a1 : Nat} (ka0 : bz_k G a0 = (7, 0)) (ka1 : bz_k G a1 = (9, 8)) {k : Int32 → Int32 → bz_W → Option (Int32 × bz_W)} {res : Int32 × bz_W} : ∀ (n : Nat) (v2 : Int32) (v3 : Int32) (v4 : Int32) (σ : bz_W) (H : Heap) (locs : List Loc) (ls : Array Slot), f_L_sound_L12 a0 a1 k n v2 v3 v4 σ = some res → bz_H G s σ H locs → lv_has ls 8 [(0, .ref a0), (1, .ref a1), (2, .int v2), (3, .int v3), (4, .int v4)] → (∀ (w2 : Int32) (w3 : Int32) (σ : bz_W) (H : Heap) (locs : List Loc) (ls : Array Slot), k w2 w3 σ = some res → bz_H G s σ H locs → lv_has ls 8 [(0, .ref a0), (1, .ref a1), (2, .int w2), (3, .int w3)] → W p l e ({ frames := 5, cells := 1, slots := 8, locals := 119 } : Room) s m args below meth c H locs 1 8 (MQ below (bz_Qc G (some (.int res.1)) res.2) args s 1 8 (bz_A G)) (F0 m 332 ls [])) → W p l e ({ frames := 5, cells := 1, slots := 8, locals := 119 } : Room) s m args below meth c H locs 1 8 (MQ below (bz_Qc G (some (.int res.1)) res.2) args s 1 8 (bz_A G)) (F0 m 12 ls []) := by
  have hx := C.1
  have hb := C.2.1
  have hts := C.2.2.2.2.1
  intro n
  induction n with
  | zero =>
    intro v2 v3 v4 σ H locs ls hF
    exact absurd hF (by simp [f_L_sound_L12])
  | succ n ih =>
    intro v2 v3 v4 σ H locs ls hF h hl hk
    rw [f_L_sound_L12] at hF
    refine lv_iload hx hb dL_sound_12 (lv_at hl 4 rfl) ?_
    refine lv_aload_n hx hb dL_sound_14 rfl (lv_at hl 0 rfl) ?_
    refine lv_iconst (v := 0) hx hb dL_sound_15 (by decide) ?_
    obtain ⟨r1, σ2, qr1, hF⟩ := bd_u hF
    refine bz_callV (rest := [.int v4]) (st1 := [.int r1, .int v4]) C h (As := [.int 0]) (o := some (.int r1)) (τ := σ2) (c_X6_count (l := l) ka0 (res := (r1, σ2)) qr1) ka0 (by decide) (ci := 6) rfl (cwV 1 hts (bz_gV wd_16_2 wd_16_3 wd_16_4 wd_1_2 wd_16_5) rfl rfl rfl (by decide +kernel) ⟨Nat.le_of_ble_eq_true rfl, Nat.le_of_ble_eq_true rfl⟩) rfl hl.1 rfl (Nat.le_of_ble_eq_true rfl) ⟨Nat.le_of_ble_eq_true rfl, Nat.le_of_ble_eq_true rfl⟩ dL_sound_16 rfl (fun H locs h => ?_)
    refine lv_icmp_ge (tgt := 332) hx hb dL_sound_19 (by decide) (fun c3 => ?_) (fun c3 => ?_)
    · have hF := it_t hF c3
      exact hk _ _ _ H locs ls hF h (lv_sub hl [0, 1, 2, 3] rfl)
    · have hF := it_f hF c3
      refine lv_aload_n hx hb dL_sound_22 rfl (lv_at hl 0 rfl) ?_
      refine lv_iload hx hb dL_sound_23 (lv_at hl 4 rfl) ?_
      refine lv_iconst (v := 5) hx hb dL_sound_25 (by decide) ?_
      obtain ⟨r4, σ5, qr4, hF⟩ := bd_u hF
      refine bz_callV (rest := []) (st1 := [.int r4]) C h (As := [.int v4, .int 5]) (o := some (.int r4)) (τ := σ5) (c_X6_motor (l := l) ka0 (res := (r4, σ5)) qr4) ka0 (by decide) (ci := 6) rfl (cwV 2 hts (bz_gV wd_21_4 wd_21_5 wd_21_6 wd_1_2 wd_21_7) rfl rfl rfl (by decide +kernel) ⟨Nat.le_of_ble_eq_true rfl, Nat.le_of_ble_eq_true rfl⟩) rfl hl.1 rfl (by decide) ⟨Nat.le_of_ble_eq_true rfl, Nat.le_of_ble_eq_true rfl⟩ dL_sound_26 rfl (fun H locs h => ?_)
      refine lv_istore (lv' := [(5, .int r4), (0, .ref a0), (1, .ref a1), (2, .int v2), (3, .int v3), (4, .int v4)]) hx hb dL_sound_29 hl (by decide) rfl (fun ls hl => ?_)
      refine lv_aload_n hx hb dL_sound_31 rfl (lv_at hl 1 rfl) ?_
      refine lv_iload hx hb dL_sound_32 (lv_at hl 5 rfl) ?_
      refine lv_bipush (v := 6) hx hb dL_sound_34 (by decide) ?_
      obtain ⟨r6, σ7, qr6, hF⟩ := bd_u hF
      refine bz_callV (rest := []) (st1 := [.int r6]) C h (As := [.int v4, .int 6]) (o := some (.int r6)) (τ := σ7) (c_X6_motor (l := l) ka0 (res := (r6, σ7)) qr6) ka0 (by decide) (ci := 6) rfl (cwV 2 hts (bz_gV wd_21_4 wd_21_5 wd_21_6 wd_1_2 wd_21_7) rfl rfl rfl (by decide +kernel) ⟨Nat.le_of_ble_eq_true rfl, Nat.le_of_ble_eq_true rfl⟩) rfl hl.1 rfl (by decide) ⟨Nat.le_of_ble_eq_true rfl, Nat.le_of_ble_eq_true rfl⟩ dL_sound_36 rfl (fun H locs h => ?_)
      refine lv_istore (lv' := [(6, .int r6), (5, .int r4), (0, .ref a0), (1, .ref a1), (2, .int v2), (3, .int v3), (4, .int v4)]) hx hb dL_sound_39 hl (by decide) rfl (fun ls hl => ?_)
      refine lv_aload_n hx hb dL_sound_41 rfl (lv_at hl 2 rfl) ?_
      refine lv_iload hx hb dL_sound_42 (lv_at hl 6 rfl) ?_
      refine lv_iconst (v := 3) hx hb dL_sound_44 (by decide) ?_
      obtain ⟨r8, σ9, qr8, hF⟩ := bd_u hF
      refine bz_callV (rest := []) (st1 := [.int r8]) C h (As := [.int v4, .int 3]) (o := some (.int r8)) (τ := σ9) (c_X6_motor (l := l) ka0 (res := (r8, σ9)) qr8) ka0 (by decide) (ci := 6) rfl (cwV 2 hts (bz_gV wd_21_4 wd_21_5 wd_21_6 wd_1_2 wd_21_7) rfl rfl rfl (by decide +kernel) ⟨Nat.le_of_ble_eq_true rfl, Nat.le_of_ble_eq_true rfl⟩) rfl hl.1 rfl (by decide) ⟨Nat.le_of_ble_eq_true rfl, Nat.le_of_ble_eq_true rfl⟩ dL_sound_45 rfl (fun H locs h => ?_)
      refine lv_iload hx hb dL_sound_48 (lv_at hl 0 rfl) ?_
      refine lv_isub hx hb dL_sound_50 ?_
      refine lv_topi (fun x10 ex10 => ?_)
      have hF := lt_u hF x10 ex10
      refine lv_istore (lv' := [(7, .int x10), (6, .int r6), (5, .int r4), (0, .ref a0), (1, .ref a1), (2, .int v2), (3, .int v3), (4, .int v4)]) hx hb dL_sound_51 hl (by decide) rfl (fun ls hl => ?_)
      refine lv_aload_n hx hb dL_sound_53 rfl (lv_at hl 4 rfl) ?_
      refine lv_iload hx hb dL_sound_54 (lv_at hl 2 rfl) ?_
      refine lv_dup2_11 hx hb dL_sound_56 rfl rfl ?_
      obtain ⟨c11, hF⟩ := ck_u hF
      refine bz_iald C h ka1 c11 (kx := r4.toNatClampNeg) rfl dL_sound_57 ?_
      refine lv_iconst (v := 1) hx hb dL_sound_58 (by decide) ?_
      refine lv_iadd hx hb dL_sound_59 ?_
      obtain ⟨c12, hF⟩ := ck_u hF
      refine bz_iast C h ka1 c12 (kx := r4.toNatClampNeg) rfl dL_sound_60 (fun H locs h => ?_)
      obtain ⟨σ13, eσ13⟩ : ∃ y : bz_W, y = bz_wi σ9 a1 r4.toNatClampNeg ((σ9.1 a1 r4.toNatClampNeg) + 1) := ⟨_, rfl⟩
      rw [← eσ13] at h
      have hF := lt_u hF σ13 eσ13
      refine lv_iload_n hx hb dL_sound_61 rfl (lv_at hl 5 rfl) ?_
      refine lv_aload_n hx hb dL_sound_62 rfl (lv_at hl 3 rfl) ?_
      refine lv_iload hx hb dL_sound_63 (lv_at hl 7 rfl) ?_
      refine lv_iconst (v := 0) hx hb dL_sound_65 (by decide) ?_
      obtain ⟨r14, σ15, qr14, hF⟩ := bd_u hF
      refine bz_callV (rest := [.int v2]) (st1 := [.int r14, .int v2]) C h (As := [.int v4, .int 0]) (o := some (.int r14)) (τ := σ15) (c_X6_account (l := l) ka0 (res := (r14, σ15)) qr14) ka0 (by decide) (ci := 6) rfl (cwV 2 hts (bz_gV wd_21_18 wd_21_19 wd_21_20 wd_1_2 wd_21_21) rfl rfl rfl (by decide +kernel) ⟨Nat.le_of_ble_eq_true rfl, Nat.le_of_ble_eq_true rfl⟩) rfl hl.1 rfl (Nat.le_of_ble_eq_true rfl) ⟨Nat.le_of_ble_eq_true rfl, Nat.le_of_ble_eq_true rfl⟩ dL_sound_66 rfl (fun H locs h => ?_)
      refine lv_iadd hx hb dL_sound_69 ?_
      refine lv_topi (fun x16 ex16 => ?_)
      have hF := lt_u hF x16 ex16
      refine lv_istore_n (lv' := [(2, .int x16), (7, .int x10), (6, .int r6), (5, .int r4), (0, .ref a0), (1, .ref a1), (3, .int v3), (4, .int v4)]) hx hb dL_sound_70 rfl hl (by decide) rfl (fun ls hl => ?_)
      refine lv_iload_n hx hb dL_sound_71 rfl (lv_at hl 6 rfl) ?_
      refine lv_aload_n hx hb dL_sound_72 rfl (lv_at hl 4 rfl) ?_
      refine lv_iload hx hb dL_sound_73 (lv_at hl 7 rfl) ?_
      refine lv_bipush (v := 10) hx hb dL_sound_75 (by decide) ?_
      obtain ⟨r17, σ18, qr17, hF⟩ := bd_u hF
      refine bz_callV (rest := [.int v3]) (st1 := [.int r17, .int v3]) C h (As := [.int v4, .int 10]) (o := some (.int r17)) (τ := σ18) (c_X6_motor (l := l) ka0 (res := (r17, σ18)) qr17) ka0 (by decide) (ci := 6) rfl (cwV 2 hts (bz_gV wd_21_4 wd_21_5 wd_21_6 wd_1_2 wd_21_7) rfl rfl rfl (by decide +kernel) ⟨Nat.le_of_ble_eq_true rfl, Nat.le_of_ble_eq_true rfl⟩) rfl hl.1 rfl (Nat.le_of_ble_eq_true rfl) ⟨Nat.le_of_ble_eq_true rfl, Nat.le_of_ble_eq_true rfl⟩ dL_sound_77 rfl (fun H locs h => ?_)
      refine lv_iadd hx hb dL_sound_80 ?_
      refine lv_topi (fun x19 ex19 => ?_)
      have hF := lt_u hF x19 ex19
      refine lv_istore_n (lv' := [(3, .int x19), (2, .int x16), (7, .int x10), (6, .int r6), (5, .int r4), (0, .ref a0), (1, .ref a1), (4, .int v4)]) hx hb dL_sound_81 rfl hl (by decide) rfl (fun ls hl => ?_)
      refine lv_aload_n hx hb dL_sound_82 rfl (lv_at hl 5 rfl) ?_
      refine lv_iload hx hb dL_sound_83 (lv_at hl 7 rfl) ?_
      refine lv_iconst (v := 0) hx hb dL_sound_85 (by decide) ?_
      obtain ⟨r20, σ21, qr20, hF⟩ := bd_u hF
      refine bz_callV (rest := []) (st1 := [.int r20]) C h (As := [.int v4, .int 0]) (o := some (.int r20)) (τ := σ21) (c_X6_account (l := l) ka0 (res := (r20, σ21)) qr20) ka0 (by decide) (ci := 6) rfl (cwV 2 hts (bz_gV wd_21_18 wd_21_19 wd_21_20 wd_1_2 wd_21_21) rfl rfl rfl (by decide +kernel) ⟨Nat.le_of_ble_eq_true rfl, Nat.le_of_ble_eq_true rfl⟩) rfl hl.1 rfl (by decide) ⟨Nat.le_of_ble_eq_true rfl, Nat.le_of_ble_eq_true rfl⟩ dL_sound_86 rfl (fun H locs h => ?_)
      refine lv_aload_n hx hb dL_sound_89 rfl (lv_at hl 5 rfl) ?_
      refine lv_iload hx hb dL_sound_90 (lv_at hl 7 rfl) ?_
      refine lv_iconst (v := 1) hx hb dL_sound_92 (by decide) ?_
      obtain ⟨r22, σ23, qr22, hF⟩ := bd_u hF
      refine bz_callV (rest := [.int r20]) (st1 := [.int r22, .int r20]) C h (As := [.int v4, .int 1]) (o := some (.int r22)) (τ := σ23) (c_X6_account (l := l) ka0 (res := (r22, σ23)) qr22) ka0 (by decide) (ci := 6) rfl (cwV 2 hts (bz_gV wd_21_18 wd_21_19 wd_21_20 wd_1_2 wd_21_21) rfl rfl rfl (by decide +kernel) ⟨Nat.le_of_ble_eq_true rfl, Nat.le_of_ble_eq_true rfl⟩) rfl hl.1 rfl (Nat.le_of_ble_eq_true rfl) ⟨Nat.le_of_ble_eq_true rfl, Nat.le_of_ble_eq_true rfl⟩ dL_sound_93 rfl (fun H locs h => ?_)
      refine lv_iload hx hb dL_sound_96 (lv_at hl 3 rfl) ?_
      refine lv_iadd hx hb dL_sound_98 ?_
      refine lv_icmp_ne (tgt := 139) hx hb dL_sound_99 (by decide) (fun c24 => ?_) (fun c24 => ?_)
      · have hF := it_f hF c24
        refine lv_iconst (v := 0) hx hb dL_sound_139 (by decide) ?_
        exact bz_zret C h hlocks hr (by decide) hF dL_sound_140
      · have hF := it_t hF c24
        refine lv_aload_n hx hb dL_sound_102 rfl (lv_at hl 5 rfl) ?_
        refine lv_iload hx hb dL_sound_103 (lv_at hl 7 rfl) ?_
        refine lv_bipush (v := 12) hx hb dL_sound_105 (by decide) ?_
        obtain ⟨r25, σ26, qr25, hF⟩ := bd_u hF
        refine bz_callV (rest := []) (st1 := [.int r25]) C h (As := [.int v4, .int 12]) (o := some (.int r25)) (τ := σ26) (c_X6_motor (l := l) ka0 (res := (r25, σ26)) qr25) ka0 (by decide) (ci := 6) rfl (cwV 2 hts (bz_gV wd_21_4 wd_21_5 wd_21_6 wd_1_2 wd_21_7) rfl rfl rfl (by decide +kernel) ⟨Nat.le_of_ble_eq_true rfl, Nat.le_of_ble_eq_true rfl⟩) rfl hl.1 rfl (by decide) ⟨Nat.le_of_ble_eq_true rfl, Nat.le_of_ble_eq_true rfl⟩ dL_sound_107 rfl (fun H locs h => ?_)
        refine lv_iload hx hb dL_sound_110 (lv_at hl 2 rfl) ?_
        obtain ⟨j29, ej29, hF⟩ := lt_j hF
        have hj29 : ∀ (y27 : Int32) (σ28 : bz_W) (H : Heap) (locs : List Loc) (ls : Array Slot), j29 y27 σ28 = some res → bz_H G s σ28 H locs → lv_has ls 8 [(0, .ref a0), (1, .ref a1), (2, .int x16), (3, .int x19), (4, .int v4), (5, .int r4)] → W p l e ({ frames := 5, cells := 1, slots := 8, locals := 119 } : Room) s m args below meth c H locs 1 8 (MQ below (bz_Qc G (some (.int res.1)) res.2) args s 1 8 (bz_A G)) (F0 m 121 ls [.int y27, .int r25]) := by
            intro y27 σ28 H locs ls hF h hl
            subst ej29
            refine lv_icmp_ne (tgt := 139) hx hb dL_sound_121 (by decide) (fun c30 => ?_) (fun c30 => ?_)
            · have hF := it_f hF c30
              refine lv_iconst (v := 0) hx hb dL_sound_139 (by decide) ?_
              exact bz_zret C h hlocks hr (by decide) hF dL_sound_140
            · have hF := it_t hF c30
              refine lv_aload_n hx hb dL_sound_124 rfl (lv_at hl 0 rfl) ?_
              refine lv_iload hx hb dL_sound_125 (lv_at hl 4 rfl) ?_
              obtain ⟨r31, σ32, qr31, hF⟩ := bd_u hF
              refine bz_callV (rest := []) (st1 := [.int r31]) C h (As := [.int v4]) (o := some (.int r31)) (τ := σ32) (c_X6_startHeat (l := l) ka0 (res := (r31, σ32)) qr31) ka0 (by decide) (ci := 6) rfl (cwV 1 hts (bz_gV wd_24_13 wd_24_14 wd_24_15 wd_1_2 wd_24_16) rfl rfl rfl (by decide +kernel) ⟨Nat.le_of_ble_eq_true rfl, Nat.le_of_ble_eq_true rfl⟩) rfl hl.1 rfl (by decide) ⟨Nat.le_of_ble_eq_true rfl, Nat.le_of_ble_eq_true rfl⟩ dL_sound_127 rfl (fun H locs h => ?_)
              refine lv_aload_n hx hb dL_sound_130 rfl (lv_at hl 0 rfl) ?_
              refine lv_iload hx hb dL_sound_131 (lv_at hl 4 rfl) ?_
              obtain ⟨r33, σ34, qr33, hF⟩ := bd_u hF
              refine bz_callS (rest := [.int r31]) (st1 := [.int r33, .int r31]) C h (As := [.ref a0, .int v4]) (o := some (.int r33)) (τ := σ34) (c_L_heatOf (l := l) ka0 (res := (r33, σ34)) qr33) (va_cwS 2 hts (bz_gS wd_24_18 wd_24_19 wd_20_14 wd_24_20) rfl rfl rfl (by decide +kernel) ⟨Nat.le_of_ble_eq_true rfl, Nat.le_of_ble_eq_true rfl⟩) rfl hl.1 rfl (Nat.le_of_ble_eq_true rfl) ⟨Nat.le_of_ble_eq_true rfl, Nat.le_of_ble_eq_true rfl⟩ dL_sound_133 rfl (fun H locs h => ?_)
              refine lv_icmp_eq (tgt := 141) hx hb dL_sound_136 (by decide) (fun c35 => ?_) (fun c35 => ?_)
              · have hF := it_t hF c35
                refine lv_aload_n hx hb dL_sound_141 rfl (lv_at hl 0 rfl) ?_
                refine lv_iload hx hb dL_sound_142 (lv_at hl 4 rfl) ?_
                refine lv_bipush (v := 8) hx hb dL_sound_144 (by decide) ?_
                obtain ⟨r36, σ37, qr36, hF⟩ := bd_u hF
                refine bz_callV (rest := []) (st1 := [.int r36]) C h (As := [.int v4, .int 8]) (o := some (.int r36)) (τ := σ37) (c_X6_motor (l := l) ka0 (res := (r36, σ37)) qr36) ka0 (by decide) (ci := 6) rfl (cwV 2 hts (bz_gV wd_21_4 wd_21_5 wd_21_6 wd_1_2 wd_21_7) rfl rfl rfl (by decide +kernel) ⟨Nat.le_of_ble_eq_true rfl, Nat.le_of_ble_eq_true rfl⟩) rfl hl.1 rfl (by decide) ⟨Nat.le_of_ble_eq_true rfl, Nat.le_of_ble_eq_true rfl⟩ dL_sound_146 rfl (fun H locs h => ?_)
                refine lv_bipush (v := (-4)) hx hb dL_sound_149 (by decide) ?_
                obtain ⟨j40, ej40, hF⟩ := lt_j hF
                have hj40 : ∀ (y38 : Int32) (σ39 : bz_W) (H : Heap) (locs : List Loc) (ls : Array Slot), j40 y38 σ39 = some res → bz_H G s σ39 H locs → lv_has ls 8 [(0, .ref a0), (1, .ref a1), (2, .int x16), (3, .int x19), (4, .int v4), (5, .int r4)] → W p l e ({ frames := 5, cells := 1, slots := 8, locals := 119 } : Room) s m args below meth c H locs 1 8 (MQ below (bz_Qc G (some (.int res.1)) res.2) args s 1 8 (bz_A G)) (F0 m 159 ls [.int y38]) := by
                    intro y38 σ39 H locs ls hF h hl
                    subst ej40
                    refine lv_iload hx hb dL_sound_159 (lv_at hl 5 rfl) ?_
                    refine lv_iconst (v := 2) hx hb dL_sound_161 (by decide) ?_
                    obtain ⟨j43, ej43, hF⟩ := lt_j hF
                    have hj43 : ∀ (y41 : Int32) (σ42 : bz_W) (H : Heap) (locs : List Loc) (ls : Array Slot), j43 y41 σ42 = some res → bz_H G s σ42 H locs → lv_has ls 8 [(0, .ref a0), (1, .ref a1), (2, .int x16), (3, .int x19), (4, .int v4), (5, .int r4)] → W p l e ({ frames := 5, cells := 1, slots := 8, locals := 119 } : Room) s m args below meth c H locs 1 8 (MQ below (bz_Qc G (some (.int res.1)) res.2) args s 1 8 (bz_A G)) (F0 m 170 ls [.int y41, .int y38]) := by
                        intro y41 σ42 H locs ls hF h hl
                        subst ej43
                        refine lv_icmp_eq (tgt := 254) hx hb dL_sound_170 (by decide) (fun c44 => ?_) (fun c44 => ?_)
                        · have hF := it_t hF c44
                          refine lv_iconst (v := 0) hx hb dL_sound_254 (by decide) ?_
                          exact bz_zret C h hlocks hr (by decide) hF dL_sound_255
                        · have hF := it_f hF c44
                          refine lv_aload_n hx hb dL_sound_173 rfl (lv_at hl 0 rfl) ?_
                          refine lv_iload hx hb dL_sound_174 (lv_at hl 4 rfl) ?_
                          refine lv_bipush (v := 9) hx hb dL_sound_176 (by decide) ?_
                          obtain ⟨r45, σ46, qr45, hF⟩ := bd_u hF
                          refine bz_callV (rest := []) (st1 := [.int r45]) C h (As := [.int v4, .int 9]) (o := some (.int r45)) (τ := σ46) (c_X6_motor (l := l) ka0 (res := (r45, σ46)) qr45) ka0 (by decide) (ci := 6) rfl (cwV 2 hts (bz_gV wd_21_4 wd_21_5 wd_21_6 wd_1_2 wd_21_7) rfl rfl rfl (by decide +kernel) ⟨Nat.le_of_ble_eq_true rfl, Nat.le_of_ble_eq_true rfl⟩) rfl hl.1 rfl (by decide) ⟨Nat.le_of_ble_eq_true rfl, Nat.le_of_ble_eq_true rfl⟩ dL_sound_178 rfl (fun H locs h => ?_)
                          refine lv_bipush (v := (-4)) hx hb dL_sound_181 (by decide) ?_
                          obtain ⟨j49, ej49, hF⟩ := lt_j hF
                          have hj49 : ∀ (y47 : Int32) (σ48 : bz_W) (H : Heap) (locs : List Loc) (ls : Array Slot), j49 y47 σ48 = some res → bz_H G s σ48 H locs → lv_has ls 8 [(0, .ref a0), (1, .ref a1), (2, .int x16), (3, .int x19), (4, .int v4), (5, .int r4)] → W p l e ({ frames := 5, cells := 1, slots := 8, locals := 119 } : Room) s m args below meth c H locs 1 8 (MQ below (bz_Qc G (some (.int res.1)) res.2) args s 1 8 (bz_A G)) (F0 m 191 ls [.int y47]) := by
                              intro y47 σ48 H locs ls hF h hl
                              subst ej49
                              refine lv_iload hx hb dL_sound_191 (lv_at hl 5 rfl) ?_
                              refine lv_iconst (v := 1) hx hb dL_sound_193 (by decide) ?_
                              obtain ⟨j52, ej52, hF⟩ := lt_j hF
                              have hj52 : ∀ (y50 : Int32) (σ51 : bz_W) (H : Heap) (locs : List Loc) (ls : Array Slot), j52 y50 σ51 = some res → bz_H G s σ51 H locs → lv_has ls 8 [(0, .ref a0), (1, .ref a1), (2, .int x16), (3, .int x19), (4, .int v4), (5, .int r4)] → W p l e ({ frames := 5, cells := 1, slots := 8, locals := 119 } : Room) s m args below meth c H locs 1 8 (MQ below (bz_Qc G (some (.int res.1)) res.2) args s 1 8 (bz_A G)) (F0 m 202 ls [.int y50, .int y47]) := by
                                  intro y50 σ51 H locs ls hF h hl
                                  subst ej52
                                  refine lv_icmp_eq (tgt := 254) hx hb dL_sound_202 (by decide) (fun c53 => ?_) (fun c53 => ?_)
                                  · have hF := it_t hF c53
                                    refine lv_iconst (v := 0) hx hb dL_sound_254 (by decide) ?_
                                    exact bz_zret C h hlocks hr (by decide) hF dL_sound_255
                                  · have hF := it_f hF c53
                                    refine lv_aload_n hx hb dL_sound_205 rfl (lv_at hl 0 rfl) ?_
                                    refine lv_iload hx hb dL_sound_206 (lv_at hl 4 rfl) ?_
                                    refine lv_bipush (v := 11) hx hb dL_sound_208 (by decide) ?_
                                    obtain ⟨r54, σ55, qr54, hF⟩ := bd_u hF
                                    refine bz_callV (rest := []) (st1 := [.int r54]) C h (As := [.int v4, .int 11]) (o := some (.int r54)) (τ := σ55) (c_X6_motor (l := l) ka0 (res := (r54, σ55)) qr54) ka0 (by decide) (ci := 6) rfl (cwV 2 hts (bz_gV wd_21_4 wd_21_5 wd_21_6 wd_1_2 wd_21_7) rfl rfl rfl (by decide +kernel) ⟨Nat.le_of_ble_eq_true rfl, Nat.le_of_ble_eq_true rfl⟩) rfl hl.1 rfl (by decide) ⟨Nat.le_of_ble_eq_true rfl, Nat.le_of_ble_eq_true rfl⟩ dL_sound_210 rfl (fun H locs h => ?_)
                                    refine lv_bipush (v := (-4)) hx hb dL_sound_213 (by decide) ?_
                                    obtain ⟨j58, ej58, hF⟩ := lt_j hF
                                    have hj58 : ∀ (y56 : Int32) (σ57 : bz_W) (H : Heap) (locs : List Loc) (ls : Array Slot), j58 y56 σ57 = some res → bz_H G s σ57 H locs → lv_has ls 8 [(0, .ref a0), (1, .ref a1), (2, .int x16), (3, .int x19), (4, .int v4), (5, .int r4)] → W p l e ({ frames := 5, cells := 1, slots := 8, locals := 119 } : Room) s m args below meth c H locs 1 8 (MQ below (bz_Qc G (some (.int res.1)) res.2) args s 1 8 (bz_A G)) (F0 m 223 ls [.int y56]) := by
                                        intro y56 σ57 H locs ls hF h hl
                                        subst ej58
                                        refine lv_iload hx hb dL_sound_223 (lv_at hl 5 rfl) ?_
                                        refine lv_iconst (v := 4) hx hb dL_sound_225 (by decide) ?_
                                        obtain ⟨j61, ej61, hF⟩ := lt_j hF
                                        have hj61 : ∀ (y59 : Int32) (σ60 : bz_W) (H : Heap) (locs : List Loc) (ls : Array Slot), j61 y59 σ60 = some res → bz_H G s σ60 H locs → lv_has ls 8 [(0, .ref a0), (1, .ref a1), (2, .int x16), (3, .int x19), (4, .int v4), (5, .int r4)] → W p l e ({ frames := 5, cells := 1, slots := 8, locals := 119 } : Room) s m args below meth c H locs 1 8 (MQ below (bz_Qc G (some (.int res.1)) res.2) args s 1 8 (bz_A G)) (F0 m 234 ls [.int y59, .int y56]) := by
                                            intro y59 σ60 H locs ls hF h hl
                                            subst ej61
                                            refine lv_icmp_eq (tgt := 254) hx hb dL_sound_234 (by decide) (fun c62 => ?_) (fun c62 => ?_)
                                            · have hF := it_t hF c62
                                              refine lv_iconst (v := 0) hx hb dL_sound_254 (by decide) ?_
                                              exact bz_zret C h hlocks hr (by decide) hF dL_sound_255
                                            · have hF := it_f hF c62
                                              refine lv_iload hx hb dL_sound_237 (lv_at hl 5 rfl) ?_
                                              refine lv_iconst (v := 2) hx hb dL_sound_239 (by decide) ?_
                                              obtain ⟨j64, ej64, hF⟩ := lt_j hF
                                              have hj64 : ∀ (σ63 : bz_W) (H : Heap) (locs : List Loc) (ls : Array Slot), j64 σ63 = some res → bz_H G s σ63 H locs → lv_has ls 8 [(0, .ref a0), (1, .ref a1), (2, .int x16), (3, .int x19), (4, .int v4), (5, .int r4)] → W p l e ({ frames := 5, cells := 1, slots := 8, locals := 119 } : Room) s m args below meth c H locs 1 8 (MQ below (bz_Qc G (some (.int res.1)) res.2) args s 1 8 (bz_A G)) (F0 m 256 ls []) := by
                                                  intro σ63 H locs ls hF h hl
                                                  subst ej64
                                                  refine lv_aload_n hx hb dL_sound_256 rfl (lv_at hl 0 rfl) ?_
                                                  refine lv_iload hx hb dL_sound_257 (lv_at hl 4 rfl) ?_
                                                  obtain ⟨r65, σ66, qr65, hF⟩ := bd_u hF
                                                  refine bz_callV (rest := []) (st1 := [.int r65]) C h (As := [.int v4]) (o := some (.int r65)) (τ := σ66) (c_X6_whyNot (l := l) ka0 (res := (r65, σ66)) qr65) ka0 (by decide) (ci := 6) rfl (cwV 1 hts (bz_gV wd_24_3 wd_24_4 wd_24_5 wd_1_2 wd_24_6) rfl rfl rfl (by decide +kernel) ⟨Nat.le_of_ble_eq_true rfl, Nat.le_of_ble_eq_true rfl⟩) rfl hl.1 rfl (by decide) ⟨Nat.le_of_ble_eq_true rfl, Nat.le_of_ble_eq_true rfl⟩ dL_sound_259 rfl (fun H locs h => ?_)
                                                  refine lv_iload hx hb dL_sound_262 (lv_at hl 5 rfl) ?_
                                                  refine lv_iconst (v := 1) hx hb dL_sound_264 (by decide) ?_
                                                  obtain ⟨j69, ej69, hF⟩ := lt_j hF
                                                  have hj69 : ∀ (y67 : Int32) (σ68 : bz_W) (H : Heap) (locs : List Loc) (ls : Array Slot), j69 y67 σ68 = some res → bz_H G s σ68 H locs → lv_has ls 8 [(0, .ref a0), (1, .ref a1), (2, .int x16), (3, .int x19), (4, .int v4), (5, .int r4)] → W p l e ({ frames := 5, cells := 1, slots := 8, locals := 119 } : Room) s m args below meth c H locs 1 8 (MQ below (bz_Qc G (some (.int res.1)) res.2) args s 1 8 (bz_A G)) (F0 m 279 ls [.int y67, .int r65]) := by
                                                      intro y67 σ68 H locs ls hF h hl
                                                      subst ej69
                                                      refine lv_icmp_ne (tgt := 324) hx hb dL_sound_279 (by decide) (fun c70 => ?_) (fun c70 => ?_)
                                                      · have hF := it_f hF c70
                                                        refine lv_iconst (v := 0) hx hb dL_sound_324 (by decide) ?_
                                                        exact bz_zret C h hlocks hr (by decide) hF dL_sound_325
                                                      · have hF := it_t hF c70
                                                        refine lv_iload hx hb dL_sound_282 (lv_at hl 5 rfl) ?_
                                                        refine lv_iconst (v := 2) hx hb dL_sound_284 (by decide) ?_
                                                        obtain ⟨j72, ej72, hF⟩ := lt_j hF
                                                        have hj72 : ∀ (σ71 : bz_W) (H : Heap) (locs : List Loc) (ls : Array Slot), j72 σ71 = some res → bz_H G s σ71 H locs → lv_has ls 8 [(0, .ref a0), (1, .ref a1), (2, .int x16), (3, .int x19), (4, .int v4)] → W p l e ({ frames := 5, cells := 1, slots := 8, locals := 119 } : Room) s m args below meth c H locs 1 8 (MQ below (bz_Qc G (some (.int res.1)) res.2) args s 1 8 (bz_A G)) (F0 m 305 ls []) := by
                                                            intro σ71 H locs ls hF h hl
                                                            subst ej72
                                                            refine lv_aload_n hx hb dL_sound_305 rfl (lv_at hl 0 rfl) ?_
                                                            refine lv_iload hx hb dL_sound_306 (lv_at hl 4 rfl) ?_
                                                            refine lv_iconst (v := 4) hx hb dL_sound_308 (by decide) ?_
                                                            obtain ⟨r73, σ74, qr73, hF⟩ := bd_u hF
                                                            refine bz_callV (rest := []) (st1 := [.int r73]) C h (As := [.int v4, .int 4]) (o := some (.int r73)) (τ := σ74) (c_X6_account (l := l) ka0 (res := (r73, σ74)) qr73) ka0 (by decide) (ci := 6) rfl (cwV 2 hts (bz_gV wd_21_18 wd_21_19 wd_21_20 wd_1_2 wd_21_21) rfl rfl rfl (by decide +kernel) ⟨Nat.le_of_ble_eq_true rfl, Nat.le_of_ble_eq_true rfl⟩) rfl hl.1 rfl (by decide) ⟨Nat.le_of_ble_eq_true rfl, Nat.le_of_ble_eq_true rfl⟩ dL_sound_309 rfl (fun H locs h => ?_)
                                                            refine lv_aload_n hx hb dL_sound_312 rfl (lv_at hl 0 rfl) ?_
                                                            refine lv_iload hx hb dL_sound_313 (lv_at hl 4 rfl) ?_
                                                            refine lv_iconst (v := 2) hx hb dL_sound_315 (by decide) ?_
                                                            obtain ⟨r75, σ76, qr75, hF⟩ := bd_u hF
                                                            refine bz_callV (rest := [.int r73]) (st1 := [.int r75, .int r73]) C h (As := [.int v4, .int 2]) (o := some (.int r75)) (τ := σ76) (c_X6_account (l := l) ka0 (res := (r75, σ76)) qr75) ka0 (by decide) (ci := 6) rfl (cwV 2 hts (bz_gV wd_21_18 wd_21_19 wd_21_20 wd_1_2 wd_21_21) rfl rfl rfl (by decide +kernel) ⟨Nat.le_of_ble_eq_true rfl, Nat.le_of_ble_eq_true rfl⟩) rfl hl.1 rfl (Nat.le_of_ble_eq_true rfl) ⟨Nat.le_of_ble_eq_true rfl, Nat.le_of_ble_eq_true rfl⟩ dL_sound_316 rfl (fun H locs h => ?_)
                                                            refine lv_iconst (v := 1) hx hb dL_sound_319 (by decide) ?_
                                                            refine lv_isub hx hb dL_sound_320 ?_
                                                            refine lv_icmp_ge (tgt := 326) hx hb dL_sound_321 (by decide) (fun c77 => ?_) (fun c77 => ?_)
                                                            · have hF := it_t hF c77
                                                              obtain ⟨x78, ex78⟩ : ∃ y : Int32, y = v4 + 1 := ⟨_, rfl⟩
                                                              have hF := lt_u hF x78 ex78
                                                              refine lv_iinc (v := x78) (lv' := [(4, .int x78), (0, .ref a0), (1, .ref a1), (2, .int x16), (3, .int x19)]) hx hb dL_sound_326 hl (k := 4) rfl (by rw [ex78]; rfl) (by decide) rfl (fun ls hl => ?_)
                                                              refine lv_goto (tgt := 12) hx hb dL_sound_329 (by decide) ?_
                                                              exact ih _ _ _ _ H locs ls hF h (lv_sub hl [1, 2, 3, 4, 0] rfl) hk
                                                            · have hF := it_f hF c77
                                                              refine lv_iconst (v := 0) hx hb dL_sound_324 (by decide) ?_
                                                              exact bz_zret C h hlocks hr (by decide) hF dL_sound_325
                                                        refine lv_icmp_eq (tgt := 305) hx hb dL_sound_285 (by decide) (fun c79 => ?_) (fun c79 => ?_)
                                                        · have hF := it_t hF c79
                                                          exact hj72 _ H locs ls hF h (lv_sub hl [0, 1, 2, 3, 4] rfl)
                                                        · have hF := it_f hF c79
                                                          refine lv_iload hx hb dL_sound_288 (lv_at hl 5 rfl) ?_
                                                          refine lv_iconst (v := 3) hx hb dL_sound_290 (by decide) ?_
                                                          refine lv_icmp_eq (tgt := 305) hx hb dL_sound_291 (by decide) (fun c80 => ?_) (fun c80 => ?_)
                                                          · have hF := it_t hF c80
                                                            exact hj72 _ H locs ls hF h (lv_sub hl [0, 1, 2, 3, 4] rfl)
                                                          · have hF := it_f hF c80
                                                            refine lv_aload_n hx hb dL_sound_294 rfl (lv_at hl 0 rfl) ?_
                                                            refine lv_iload hx hb dL_sound_295 (lv_at hl 4 rfl) ?_
                                                            refine lv_bipush (v := 10) hx hb dL_sound_297 (by decide) ?_
                                                            obtain ⟨r81, σ82, qr81, hF⟩ := bd_u hF
                                                            refine bz_callV (rest := []) (st1 := [.int r81]) C h (As := [.int v4, .int 10]) (o := some (.int r81)) (τ := σ82) (c_X6_motor (l := l) ka0 (res := (r81, σ82)) qr81) ka0 (by decide) (ci := 6) rfl (cwV 2 hts (bz_gV wd_21_4 wd_21_5 wd_21_6 wd_1_2 wd_21_7) rfl rfl rfl (by decide +kernel) ⟨Nat.le_of_ble_eq_true rfl, Nat.le_of_ble_eq_true rfl⟩) rfl hl.1 rfl (by decide) ⟨Nat.le_of_ble_eq_true rfl, Nat.le_of_ble_eq_true rfl⟩ dL_sound_299 rfl (fun H locs h => ?_)
                                                            refine lv_if_ne (tgt := 324) hx hb dL_sound_302 (by decide) (fun c83 => ?_) (fun c83 => ?_)
                                                            · have hF := it_f hF c83
                                                              refine lv_iconst (v := 0) hx hb dL_sound_324 (by decide) ?_
                                                              exact bz_zret C h hlocks hr (by decide) hF dL_sound_325
                                                            · have hF := it_t hF c83
                                                              exact hj72 _ H locs ls hF h (lv_sub hl [0, 1, 2, 3, 4] rfl)
                                                  refine lv_icmp_ne (tgt := 277) hx hb dL_sound_265 (by decide) (fun c84 => ?_) (fun c84 => ?_)
                                                  · have hF := it_f hF c84
                                                    refine lv_bipush (v := (-4)) hx hb dL_sound_277 (by decide) ?_
                                                    exact hj69 _ _ H locs ls hF h (lv_sub hl [0, 1, 2, 3, 4, 5] rfl)
                                                  · have hF := it_t hF c84
                                                    refine lv_aload_n hx hb dL_sound_268 rfl (lv_at hl 0 rfl) ?_
                                                    refine lv_iload hx hb dL_sound_269 (lv_at hl 4 rfl) ?_
                                                    obtain ⟨r85, σ86, qr85, hF⟩ := bd_u hF
                                                    refine bz_callS (rest := [.int r65]) (st1 := [.int r85, .int r65]) C h (As := [.ref a0, .int v4]) (o := some (.int r85)) (τ := σ86) (c_L_why (l := l) ka0 (res := (r85, σ86)) qr85) (va_cwS 2 hts (bz_gS wd_25_0 wd_25_1 wd_20_14 wd_25_2) rfl rfl rfl (by decide +kernel) ⟨Nat.le_of_ble_eq_true rfl, Nat.le_of_ble_eq_true rfl⟩) rfl hl.1 rfl (Nat.le_of_ble_eq_true rfl) ⟨Nat.le_of_ble_eq_true rfl, Nat.le_of_ble_eq_true rfl⟩ dL_sound_271 rfl (fun H locs h => ?_)
                                                    refine lv_goto (tgt := 279) hx hb dL_sound_274 (by decide) ?_
                                                    exact hj69 _ _ H locs ls hF h (lv_sub hl [0, 1, 2, 3, 4, 5] rfl)
                                              refine lv_icmp_ne (tgt := 256) hx hb dL_sound_240 (by decide) (fun c87 => ?_) (fun c87 => ?_)
                                              · have hF := it_f hF c87
                                                exact hj64 _ H locs ls hF h (lv_sub hl [0, 1, 2, 3, 4, 5] rfl)
                                              · have hF := it_t hF c87
                                                refine lv_aload_n hx hb dL_sound_243 rfl (lv_at hl 0 rfl) ?_
                                                refine lv_iload hx hb dL_sound_244 (lv_at hl 4 rfl) ?_
                                                refine lv_bipush (v := 7) hx hb dL_sound_246 (by decide) ?_
                                                obtain ⟨r88, σ89, qr88, hF⟩ := bd_u hF
                                                refine bz_callV (rest := []) (st1 := [.int r88]) C h (As := [.int v4, .int 7]) (o := some (.int r88)) (τ := σ89) (c_X6_motor (l := l) ka0 (res := (r88, σ89)) qr88) ka0 (by decide) (ci := 6) rfl (cwV 2 hts (bz_gV wd_21_4 wd_21_5 wd_21_6 wd_1_2 wd_21_7) rfl rfl rfl (by decide +kernel) ⟨Nat.le_of_ble_eq_true rfl, Nat.le_of_ble_eq_true rfl⟩) rfl hl.1 rfl (by decide) ⟨Nat.le_of_ble_eq_true rfl, Nat.le_of_ble_eq_true rfl⟩ dL_sound_248 rfl (fun H locs h => ?_)
                                                refine lv_if_eq (tgt := 256) hx hb dL_sound_251 (by decide) (fun c90 => ?_) (fun c90 => ?_)
                                                · have hF := it_t hF c90
                                                  exact hj64 _ H locs ls hF h (lv_sub hl [0, 1, 2, 3, 4, 5] rfl)
                                                · have hF := it_f hF c90
                                                  refine lv_iconst (v := 0) hx hb dL_sound_254 (by decide) ?_
                                                  exact bz_zret C h hlocks hr (by decide) hF dL_sound_255
                                        refine lv_icmp_ne (tgt := 233) hx hb dL_sound_226 (by decide) (fun c91 => ?_) (fun c91 => ?_)
                                        · have hF := it_f hF c91
                                          refine lv_iconst (v := 0) hx hb dL_sound_233 (by decide) ?_
                                          exact hj61 _ _ H locs ls hF h (lv_sub hl [0, 1, 2, 3, 4, 5] rfl)
                                        · have hF := it_t hF c91
                                          refine lv_iconst (v := 1) hx hb dL_sound_229 (by decide) ?_
                                          refine lv_goto (tgt := 234) hx hb dL_sound_230 (by decide) ?_
                                          exact hj61 _ _ H locs ls hF h (lv_sub hl [0, 1, 2, 3, 4, 5] rfl)
                                    refine lv_icmp_ne (tgt := 222) hx hb dL_sound_215 (by decide) (fun c92 => ?_) (fun c92 => ?_)
                                    · have hF := it_f hF c92
                                      refine lv_iconst (v := 0) hx hb dL_sound_222 (by decide) ?_
                                      exact hj58 _ _ H locs ls hF h (lv_sub hl [0, 1, 2, 3, 4, 5] rfl)
                                    · have hF := it_t hF c92
                                      refine lv_iconst (v := 1) hx hb dL_sound_218 (by decide) ?_
                                      refine lv_goto (tgt := 223) hx hb dL_sound_219 (by decide) ?_
                                      exact hj58 _ _ H locs ls hF h (lv_sub hl [0, 1, 2, 3, 4, 5] rfl)
                              refine lv_icmp_ne (tgt := 201) hx hb dL_sound_194 (by decide) (fun c93 => ?_) (fun c93 => ?_)
                              · have hF := it_f hF c93
                                refine lv_iconst (v := 0) hx hb dL_sound_201 (by decide) ?_
                                exact hj52 _ _ H locs ls hF h (lv_sub hl [0, 1, 2, 3, 4, 5] rfl)
                              · have hF := it_t hF c93
                                refine lv_iconst (v := 1) hx hb dL_sound_197 (by decide) ?_
                                refine lv_goto (tgt := 202) hx hb dL_sound_198 (by decide) ?_
                                exact hj52 _ _ H locs ls hF h (lv_sub hl [0, 1, 2, 3, 4, 5] rfl)
                          refine lv_icmp_ne (tgt := 190) hx hb dL_sound_183 (by decide) (fun c94 => ?_) (fun c94 => ?_)
                          · have hF := it_f hF c94
                            refine lv_iconst (v := 0) hx hb dL_sound_190 (by decide) ?_
                            exact hj49 _ _ H locs ls hF h (lv_sub hl [0, 1, 2, 3, 4, 5] rfl)
                          · have hF := it_t hF c94
                            refine lv_iconst (v := 1) hx hb dL_sound_186 (by decide) ?_
                            refine lv_goto (tgt := 191) hx hb dL_sound_187 (by decide) ?_
                            exact hj49 _ _ H locs ls hF h (lv_sub hl [0, 1, 2, 3, 4, 5] rfl)
                    refine lv_icmp_ne (tgt := 169) hx hb dL_sound_162 (by decide) (fun c95 => ?_) (fun c95 => ?_)
                    · have hF := it_f hF c95
                      refine lv_iconst (v := 0) hx hb dL_sound_169 (by decide) ?_
                      exact hj43 _ _ H locs ls hF h (lv_sub hl [0, 1, 2, 3, 4, 5] rfl)
                    · have hF := it_t hF c95
                      refine lv_iconst (v := 1) hx hb dL_sound_165 (by decide) ?_
                      refine lv_goto (tgt := 170) hx hb dL_sound_166 (by decide) ?_
                      exact hj43 _ _ H locs ls hF h (lv_sub hl [0, 1, 2, 3, 4, 5] rfl)
                refine lv_icmp_ne (tgt := 158) hx hb dL_sound_151 (by decide) (fun c96 => ?_) (fun c96 => ?_)
                · have hF := it_f hF c96
                  refine lv_iconst (v := 0) hx hb dL_sound_158 (by decide) ?_
                  exact hj40 _ _ H locs ls hF h (lv_sub hl [0, 1, 2, 3, 4, 5] rfl)
                · have hF := it_t hF c96
                  refine lv_iconst (v := 1) hx hb dL_sound_154 (by decide) ?_
                  refine lv_goto (tgt := 159) hx hb dL_sound_155 (by decide) ?_
                  exact hj40 _ _ H locs ls hF h (lv_sub hl [0, 1, 2, 3, 4, 5] rfl)
              · have hF := it_f hF c35
                refine lv_iconst (v := 0) hx hb dL_sound_139 (by decide) ?_
                exact bz_zret C h hlocks hr (by decide) hF dL_sound_140
        refine lv_if_ge (tgt := 119) hx hb dL_sound_112 (by decide) (fun c97 => ?_) (fun c97 => ?_)
        · have hF := it_t hF c97
          refine lv_iload hx hb dL_sound_119 (lv_at hl 2 rfl) ?_
          exact hj29 _ _ H locs ls hF h (lv_sub hl [5, 6, 1, 0, 7, 4] rfl)
        · have hF := it_f hF c97
          refine lv_iconst (v := 0) hx hb dL_sound_115 (by decide) ?_
          refine lv_goto (tgt := 121) hx hb dL_sound_116 (by decide) ?_
          exact hj29 _ _ H locs ls hF h (lv_sub hl [5, 6, 1, 0, 7, 4] rfl)
set_option maxHeartbeats 4000000 in
set_option maxRecDepth 100000 in
theorem L_L_sound_L335 {p : Program} {l : Launch} {e : Env} {s : State} {m : MethodId} {args : Array Value} {below : List Frame} {meth : Method} {c : Code} {G : bz_G} (C : bz_C p s m c args cL_sound 8 RL wz_L_sound G) (hlocks : meth.locks = false) (hr : meth.sig.returnType = (some .boolean)) {a0 : Nat} {a1 : Nat} {a2 : Int32} {a3 : Int32} (ka0 : bz_k G a0 = (7, 0)) (ka1 : bz_k G a1 = (9, 8)) {k : bz_W → Option (Int32 × bz_W)} {res : Int32 × bz_W} : ∀ (n : Nat) (v4 : Int32) (σ : bz_W) (H : Heap) (locs : List Loc) (ls : Array Slot), f_L_sound_L335 a0 a1 a2 a3 k n v4 σ = some res → bz_H G s σ H locs → lv_has ls 8 [(0, .ref a0), (1, .ref a1), (2, .int a2), (3, .int a3), (4, .int v4)] → (∀ (σ : bz_W) (H : Heap) (locs : List Loc) (ls : Array Slot), k σ = some res → bz_H G s σ H locs → lv_has ls 8 [(0, .ref a0), (1, .ref a1), (2, .int a2), (3, .int a3)] → W p l e ({ frames := 5, cells := 1, slots := 8, locals := 119 } : Room) s m args below meth c H locs 1 8 (MQ below (bz_Qc G (some (.int res.1)) res.2) args s 1 8 (bz_A G)) (F0 m 362 ls [])) → W p l e ({ frames := 5, cells := 1, slots := 8, locals := 119 } : Room) s m args below meth c H locs 1 8 (MQ below (bz_Qc G (some (.int res.1)) res.2) args s 1 8 (bz_A G)) (F0 m 335 ls []) := by
  have hx := C.1
  have hb := C.2.1
  have hts := C.2.2.2.2.1
  intro n
  induction n with
  | zero =>
    intro v4 σ H locs ls hF
    exact absurd hF (by simp [f_L_sound_L335])
  | succ n ih =>
    intro v4 σ H locs ls hF h hl hk
    rw [f_L_sound_L335] at hF
    refine lv_iload hx hb dL_sound_335 (lv_at hl 4 rfl) ?_
    refine lv_iconst (v := 5) hx hb dL_sound_337 (by decide) ?_
    refine lv_icmp_ge (tgt := 362) hx hb dL_sound_338 (by decide) (fun c101 => ?_) (fun c101 => ?_)
    · have hF := it_t hF c101
      exact hk _ H locs ls hF h (lv_sub hl [0, 1, 2, 3] rfl)
    · have hF := it_f hF c101
      refine lv_aload_n hx hb dL_sound_341 rfl (lv_at hl 0 rfl) ?_
      refine lv_iload hx hb dL_sound_342 (lv_at hl 4 rfl) ?_
      obtain ⟨r102, σ103, qr102, hF⟩ := bd_u hF
      refine bz_callV (rest := []) (st1 := [.int r102]) C h (As := [.int v4]) (o := some (.int r102)) (τ := σ103) (c_X6_count (l := l) ka0 (res := (r102, σ103)) qr102) ka0 (by decide) (ci := 6) rfl (cwV 1 hts (bz_gV wd_16_2 wd_16_3 wd_16_4 wd_1_2 wd_16_5) rfl rfl rfl (by decide +kernel) ⟨Nat.le_of_ble_eq_true rfl, Nat.le_of_ble_eq_true rfl⟩) rfl hl.1 rfl (by decide) ⟨Nat.le_of_ble_eq_true rfl, Nat.le_of_ble_eq_true rfl⟩ dL_sound_344 rfl (fun H locs h => ?_)
      refine lv_aload_n hx hb dL_sound_347 rfl (lv_at hl 1 rfl) ?_
      refine lv_iload hx hb dL_sound_348 (lv_at hl 4 rfl) ?_
      obtain ⟨c104, hF⟩ := ck_u hF
      refine bz_iald C h ka1 c104 (kx := v4.toNatClampNeg) rfl dL_sound_350 ?_
      refine lv_icmp_eq (tgt := 356) hx hb dL_sound_351 (by decide) (fun c105 => ?_) (fun c105 => ?_)
      · have hF := it_t hF c105
        obtain ⟨x106, ex106⟩ : ∃ y : Int32, y = v4 + 1 := ⟨_, rfl⟩
        have hF := lt_u hF x106 ex106
        refine lv_iinc (v := x106) (lv' := [(4, .int x106), (0, .ref a0), (1, .ref a1), (2, .int a2), (3, .int a3)]) hx hb dL_sound_356 hl (k := 4) rfl (by rw [ex106]; rfl) (by decide) rfl (fun ls hl => ?_)
        refine lv_goto (tgt := 335) hx hb dL_sound_359 (by decide) ?_
        exact ih _ _ H locs ls hF h (lv_sub hl [1, 2, 3, 4, 0] rfl) hk
      · have hF := it_f hF c105
        refine lv_iconst (v := 0) hx hb dL_sound_354 (by decide) ?_
        exact bz_zret C h hlocks hr (by decide) hF dL_sound_355
set_option maxHeartbeats 4000000 in
set_option maxRecDepth 100000 in
theorem cb_L_sound {p : Program} {l : Launch} {e : Env} {s : State} {m : MethodId} {args : Array Value} {below : List Frame} {meth : Method} {c : Code} {G : bz_G} (C : bz_C p s m c args cL_sound 8 RL wz_L_sound G) (hlocks : meth.locks = false) (hr : meth.sig.returnType = (some .boolean)) {a0 a1 : Nat} (ka0 : bz_k G a0 = (7, 0)) (ka1 : bz_k G a1 = (9, 8)) {σ : bz_W} {res : Int32 × bz_W} (hF : f_L_sound_b σ a0 a1 = some res) {H : Heap} {locs : List Loc} {ls : Array Slot} (h : bz_H G s σ H locs) (hl : lv_has ls 8 [(1, .ref a1), (0, .ref a0)]) : W p l e ({ frames := 5, cells := 1, slots := 8, locals := 119 } : Room) s m args below meth c H locs 1 8 (MQ below (bz_Qc G (some (.int res.1)) res.2) args s 1 8 (bz_A G)) (F0 m 5 ls []) := by
  have hx := C.1
  have hb := C.2.1
  have hts := C.2.2.2.2.1
  unfold f_L_sound_b at hF
  refine lv_iconst (v := 0) hx hb dL_sound_5 (by decide) ?_
  refine lv_istore_n (lv' := [(2, .int 0), (1, .ref a1), (0, .ref a0)]) hx hb dL_sound_6 rfl hl (by decide) rfl (fun ls hl => ?_)
  refine lv_iconst (v := 0) hx hb dL_sound_7 (by decide) ?_
  refine lv_istore_n (lv' := [(3, .int 0), (2, .int 0), (1, .ref a1), (0, .ref a0)]) hx hb dL_sound_8 rfl hl (by decide) rfl (fun ls hl => ?_)
  refine lv_iconst (v := 0) hx hb dL_sound_9 (by decide) ?_
  refine lv_istore (lv' := [(4, .int 0), (3, .int 0), (2, .int 0), (1, .ref a1), (0, .ref a0)]) hx hb dL_sound_10 hl (by decide) rfl (fun ls hl => ?_)
  refine L_L_sound_L12 C hlocks hr ka0 ka1 _ _ _ _ _ H locs ls hF h (lv_sub hl [4, 3, 2, 1, 0] rfl) ?_
  intro x98 x99 σ100 H locs ls hF h hl
  refine lv_iconst (v := 1) hx hb dL_sound_332 (by decide) ?_
  refine lv_istore (lv' := [(4, .int 1), (0, .ref a0), (1, .ref a1), (2, .int x98), (3, .int x99)]) hx hb dL_sound_333 hl (by decide) rfl (fun ls hl => ?_)
  refine L_L_sound_L335 C hlocks hr ka0 ka1 _ _ _ H locs ls hF h (lv_sub hl [1, 2, 3, 4, 0] rfl) ?_
  intro σ107 H locs ls hF h hl
  refine lv_aload_n hx hb dL_sound_362 rfl (lv_at hl 1 rfl) ?_
  refine lv_iconst (v := 0) hx hb dL_sound_363 (by decide) ?_
  refine bz_iald C h ka1 (by decide) (kx := 0) (bz_cl 0 (by decide)) dL_sound_364 ?_
  refine lv_aload_n hx hb dL_sound_365 rfl (lv_at hl 1 rfl) ?_
  refine lv_iconst (v := 1) hx hb dL_sound_366 (by decide) ?_
  refine bz_iald C h ka1 (by decide) (kx := 1) (bz_cl 1 (by decide)) dL_sound_367 ?_
  refine lv_iadd hx hb dL_sound_368 ?_
  refine lv_aload_n hx hb dL_sound_369 rfl (lv_at hl 1 rfl) ?_
  refine lv_iconst (v := 2) hx hb dL_sound_370 (by decide) ?_
  refine bz_iald C h ka1 (by decide) (kx := 2) (bz_cl 2 (by decide)) dL_sound_371 ?_
  refine lv_iadd hx hb dL_sound_372 ?_
  refine lv_aload_n hx hb dL_sound_373 rfl (lv_at hl 1 rfl) ?_
  refine lv_iconst (v := 3) hx hb dL_sound_374 (by decide) ?_
  refine bz_iald C h ka1 (by decide) (kx := 3) (bz_cl 3 (by decide)) dL_sound_375 ?_
  refine lv_iadd hx hb dL_sound_376 ?_
  refine lv_aload_n hx hb dL_sound_377 rfl (lv_at hl 1 rfl) ?_
  refine lv_iconst (v := 4) hx hb dL_sound_378 (by decide) ?_
  refine bz_iald C h ka1 (by decide) (kx := 4) (bz_cl 4 (by decide)) dL_sound_379 ?_
  refine lv_iadd hx hb dL_sound_380 ?_
  refine lv_topi (fun x108 ex108 => ?_)
  have hF := lt_u hF x108 ex108
  refine lv_istore (lv' := [(4, .int x108), (0, .ref a0), (1, .ref a1), (2, .int x98), (3, .int x99)]) hx hb dL_sound_381 hl (by decide) rfl (fun ls hl => ?_)
  refine lv_iload hx hb dL_sound_383 (lv_at hl 0 rfl) ?_
  refine lv_aload_n hx hb dL_sound_385 rfl (lv_at hl 1 rfl) ?_
  refine lv_iconst (v := 0) hx hb dL_sound_386 (by decide) ?_
  obtain ⟨r109, σ110, qr109, hF⟩ := bd_u hF
  refine bz_callV (rest := [.int x108]) (st1 := [.int r109, .int x108]) C h (As := [.int 0]) (o := some (.int r109)) (τ := σ110) (c_X6_count (l := l) ka0 (res := (r109, σ110)) qr109) ka0 (by decide) (ci := 6) rfl (cwV 1 hts (bz_gV wd_16_2 wd_16_3 wd_16_4 wd_1_2 wd_16_5) rfl rfl rfl (by decide +kernel) ⟨Nat.le_of_ble_eq_true rfl, Nat.le_of_ble_eq_true rfl⟩) rfl hl.1 rfl (Nat.le_of_ble_eq_true rfl) ⟨Nat.le_of_ble_eq_true rfl, Nat.le_of_ble_eq_true rfl⟩ dL_sound_387 rfl (fun H locs h => ?_)
  refine lv_icmp_ne (tgt := 463) hx hb dL_sound_390 (by decide) (fun c111 => ?_) (fun c111 => ?_)
  · have hF := it_f hF c111
    refine lv_iconst (v := 0) hx hb dL_sound_463 (by decide) ?_
    exact bz_zret C h hlocks hr (by decide) hF dL_sound_464
  · have hF := it_t hF c111
    refine lv_aload_n hx hb dL_sound_393 rfl (lv_at hl 1 rfl) ?_
    obtain ⟨r112, σ113, qr112, hF⟩ := bd_u hF
    refine bz_callS (rest := []) (st1 := [.int r112]) C h (As := [.ref a0]) (o := some (.int r112)) (τ := σ113) (c_L_lines (l := l) ka0 (res := (r112, σ113)) qr112) (va_cwS 1 hts (bz_gS wd_25_3 wd_25_4 wd_20_14 wd_25_5) rfl rfl rfl (by decide +kernel) ⟨Nat.le_of_ble_eq_true rfl, Nat.le_of_ble_eq_true rfl⟩) rfl hl.1 rfl (by decide) ⟨Nat.le_of_ble_eq_true rfl, Nat.le_of_ble_eq_true rfl⟩ dL_sound_394 rfl (fun H locs h => ?_)
    refine lv_if_eq (tgt := 463) hx hb dL_sound_397 (by decide) (fun c114 => ?_) (fun c114 => ?_)
    · have hF := it_t hF c114
      refine lv_iconst (v := 0) hx hb dL_sound_463 (by decide) ?_
      exact bz_zret C h hlocks hr (by decide) hF dL_sound_464
    · have hF := it_f hF c114
      refine lv_aload_n hx hb dL_sound_400 rfl (lv_at hl 1 rfl) ?_
      refine lv_bipush (v := 11) hx hb dL_sound_401 (by decide) ?_
      obtain ⟨r115, σ116, qr115, hF⟩ := bd_u hF
      refine bz_callV (rest := []) (st1 := [.int r115]) C h (As := [.int 11]) (o := some (.int r115)) (τ := σ116) (c_X6_count (l := l) ka0 (res := (r115, σ116)) qr115) ka0 (by decide) (ci := 6) rfl (cwV 1 hts (bz_gV wd_16_2 wd_16_3 wd_16_4 wd_1_2 wd_16_5) rfl rfl rfl (by decide +kernel) ⟨Nat.le_of_ble_eq_true rfl, Nat.le_of_ble_eq_true rfl⟩) rfl hl.1 rfl (by decide) ⟨Nat.le_of_ble_eq_true rfl, Nat.le_of_ble_eq_true rfl⟩ dL_sound_403 rfl (fun H locs h => ?_)
      refine lv_iload_n hx hb dL_sound_406 rfl (lv_at hl 3 rfl) ?_
      refine lv_icmp_ne (tgt := 463) hx hb dL_sound_407 (by decide) (fun c117 => ?_) (fun c117 => ?_)
      · have hF := it_f hF c117
        refine lv_iconst (v := 0) hx hb dL_sound_463 (by decide) ?_
        exact bz_zret C h hlocks hr (by decide) hF dL_sound_464
      · have hF := it_t hF c117
        refine lv_iload_n hx hb dL_sound_410 rfl (lv_at hl 3 rfl) ?_
        refine lv_aload_n hx hb dL_sound_411 rfl (lv_at hl 1 rfl) ?_
        refine lv_bipush (v := 12) hx hb dL_sound_412 (by decide) ?_
        obtain ⟨r118, σ119, qr118, hF⟩ := bd_u hF
        refine bz_callV (rest := [.int x98]) (st1 := [.int r118, .int x98]) C h (As := [.int 12]) (o := some (.int r118)) (τ := σ119) (c_X6_count (l := l) ka0 (res := (r118, σ119)) qr118) ka0 (by decide) (ci := 6) rfl (cwV 1 hts (bz_gV wd_16_2 wd_16_3 wd_16_4 wd_1_2 wd_16_5) rfl rfl rfl (by decide +kernel) ⟨Nat.le_of_ble_eq_true rfl, Nat.le_of_ble_eq_true rfl⟩) rfl hl.1 rfl (Nat.le_of_ble_eq_true rfl) ⟨Nat.le_of_ble_eq_true rfl, Nat.le_of_ble_eq_true rfl⟩ dL_sound_414 rfl (fun H locs h => ?_)
        refine lv_aload_n hx hb dL_sound_417 rfl (lv_at hl 1 rfl) ?_
        refine lv_bipush (v := 13) hx hb dL_sound_418 (by decide) ?_
        obtain ⟨r120, σ121, qr120, hF⟩ := bd_u hF
        refine bz_callV (rest := [.int r118, .int x98]) (st1 := [.int r120, .int r118, .int x98]) C h (As := [.int 13]) (o := some (.int r120)) (τ := σ121) (c_X6_count (l := l) ka0 (res := (r120, σ121)) qr120) ka0 (by decide) (ci := 6) rfl (cwV 1 hts (bz_gV wd_16_2 wd_16_3 wd_16_4 wd_1_2 wd_16_5) rfl rfl rfl (by decide +kernel) ⟨Nat.le_of_ble_eq_true rfl, Nat.le_of_ble_eq_true rfl⟩) rfl hl.1 rfl (Nat.le_of_ble_eq_true rfl) ⟨Nat.le_of_ble_eq_true rfl, Nat.le_of_ble_eq_true rfl⟩ dL_sound_420 rfl (fun H locs h => ?_)
        refine lv_iadd hx hb dL_sound_423 ?_
        refine lv_icmp_ne (tgt := 463) hx hb dL_sound_424 (by decide) (fun c122 => ?_) (fun c122 => ?_)
        · have hF := it_f hF c122
          refine lv_iconst (v := 0) hx hb dL_sound_463 (by decide) ?_
          exact bz_zret C h hlocks hr (by decide) hF dL_sound_464
        · have hF := it_t hF c122
          refine lv_aload_n hx hb dL_sound_427 rfl (lv_at hl 1 rfl) ?_
          refine lv_bipush (v := 14) hx hb dL_sound_428 (by decide) ?_
          obtain ⟨r123, σ124, qr123, hF⟩ := bd_u hF
          refine bz_callV (rest := []) (st1 := [.int r123]) C h (As := [.int 14]) (o := some (.int r123)) (τ := σ124) (c_X6_count (l := l) ka0 (res := (r123, σ124)) qr123) ka0 (by decide) (ci := 6) rfl (cwV 1 hts (bz_gV wd_16_2 wd_16_3 wd_16_4 wd_1_2 wd_16_5) rfl rfl rfl (by decide +kernel) ⟨Nat.le_of_ble_eq_true rfl, Nat.le_of_ble_eq_true rfl⟩) rfl hl.1 rfl (by decide) ⟨Nat.le_of_ble_eq_true rfl, Nat.le_of_ble_eq_true rfl⟩ dL_sound_430 rfl (fun H locs h => ?_)
          refine lv_iload_n hx hb dL_sound_433 rfl (lv_at hl 4 rfl) ?_
          refine lv_icmp_ne (tgt := 463) hx hb dL_sound_434 (by decide) (fun c125 => ?_) (fun c125 => ?_)
          · have hF := it_f hF c125
            refine lv_iconst (v := 0) hx hb dL_sound_463 (by decide) ?_
            exact bz_zret C h hlocks hr (by decide) hF dL_sound_464
          · have hF := it_t hF c125
            refine lv_aload_n hx hb dL_sound_437 rfl (lv_at hl 1 rfl) ?_
            refine lv_iload hx hb dL_sound_438 (lv_at hl 0 rfl) ?_
            refine lv_iconst (v := 0) hx hb dL_sound_440 (by decide) ?_
            obtain ⟨r126, σ127, qr126, hF⟩ := bd_u hF
            refine bz_callV (rest := []) (st1 := [.int r126]) C h (As := [.int x108, .int 0]) (o := some (.int r126)) (τ := σ127) (c_X6_motor (l := l) ka0 (res := (r126, σ127)) qr126) ka0 (by decide) (ci := 6) rfl (cwV 2 hts (bz_gV wd_21_4 wd_21_5 wd_21_6 wd_1_2 wd_21_7) rfl rfl rfl (by decide +kernel) ⟨Nat.le_of_ble_eq_true rfl, Nat.le_of_ble_eq_true rfl⟩) rfl hl.1 rfl (by decide) ⟨Nat.le_of_ble_eq_true rfl, Nat.le_of_ble_eq_true rfl⟩ dL_sound_441 rfl (fun H locs h => ?_)
            refine lv_iconst (v := (-1)) hx hb dL_sound_444 (by decide) ?_
            refine lv_icmp_ne (tgt := 463) hx hb dL_sound_445 (by decide) (fun c128 => ?_) (fun c128 => ?_)
            · have hF := it_f hF c128
              refine lv_iconst (v := 0) hx hb dL_sound_463 (by decide) ?_
              exact bz_zret C h hlocks hr (by decide) hF dL_sound_464
            · have hF := it_t hF c128
              refine lv_aload_n hx hb dL_sound_448 rfl (lv_at hl 1 rfl) ?_
              refine lv_bipush (v := 18) hx hb dL_sound_449 (by decide) ?_
              obtain ⟨r129, σ130, qr129, hF⟩ := bd_u hF
              refine bz_callV (rest := []) (st1 := [.int r129]) C h (As := [.int 18]) (o := some (.int r129)) (τ := σ130) (c_X6_count (l := l) ka0 (res := (r129, σ130)) qr129) ka0 (by decide) (ci := 6) rfl (cwV 1 hts (bz_gV wd_16_2 wd_16_3 wd_16_4 wd_1_2 wd_16_5) rfl rfl rfl (by decide +kernel) ⟨Nat.le_of_ble_eq_true rfl, Nat.le_of_ble_eq_true rfl⟩) rfl hl.1 rfl (by decide) ⟨Nat.le_of_ble_eq_true rfl, Nat.le_of_ble_eq_true rfl⟩ dL_sound_451 rfl (fun H locs h => ?_)
              refine lv_bipush (v := (-2)) hx hb dL_sound_454 (by decide) ?_
              refine lv_icmp_ne (tgt := 463) hx hb dL_sound_456 (by decide) (fun c131 => ?_) (fun c131 => ?_)
              · have hF := it_f hF c131
                refine lv_iconst (v := 0) hx hb dL_sound_463 (by decide) ?_
                exact bz_zret C h hlocks hr (by decide) hF dL_sound_464
              · have hF := it_t hF c131
                refine lv_iconst (v := 1) hx hb dL_sound_459 (by decide) ?_
                refine lv_goto (tgt := 464) hx hb dL_sound_460 (by decide) ?_
                exact bz_zret C h hlocks hr (by decide) hF dL_sound_464
