set_option maxHeartbeats 4000000 in
set_option maxRecDepth 100000 in
theorem c_X7_pass {l : Launch} {G : bz_G} {σ : bz_W} {a0 : Nat} {x1_ : Int32} (ka0 : bz_k G a0 = (8, 0)) {res : Int32 × bz_W} (hF : f_X7_pass σ a0 x1_ = some res) : bz_M l yX7_pass wz_X7_pass 6 135 G σ [.ref a0, .int x1_] (some (.int res.1)) res.2 := by
  refine bz_mk (cc := cX7_pass) (maxL := 5) (ret := (some .int)) (own := RX7) (by decide) rfl rfl (Nat.le_of_ble_eq_true rfl) ?_
  intro p e s m args below meth c ls C hlocks hr h hl
  have hx := C.1
  have hb := C.2.1
  have hts := C.2.2.2.2.1
  have hl : lv_has ls 5 [(0, .ref a0), (1, .int x1_)] := hl
  obtain ⟨H, eH⟩ : ∃ y, y = s.heap := ⟨_, rfl⟩
  obtain ⟨locs, el⟩ : ∃ y : List Loc, y = [] := ⟨_, rfl⟩
  rw [← el, ← eH] at h ⊢
  unfold f_X7_pass at hF
  refine lv_iload_n hx hb dX7_pass_0 rfl (lv_at hl 1 rfl) ?_
  refine lv_iconst (v := 1) hx hb dX7_pass_1 (by decide) ?_
  refine lv_bipush (v := 60) hx hb dX7_pass_2 (by decide) ?_
  obtain ⟨r1, σ2, qr1, hF⟩ := bd_u hF
  refine bz_callS (rest := []) (st1 := [.int r1]) C h (As := [.int x1_, .int 1, .int 60]) (o := some (.int r1)) (τ := σ2) (c_X7_in (l := l)  (res := (r1, σ2)) qr1) (va_cwS 3 hts (bz_gS wd_8_5 wd_8_6 wd_1_5 wd_8_7) rfl rfl rfl (by decide +kernel) ⟨Nat.le_of_ble_eq_true rfl, Nat.le_of_ble_eq_true rfl⟩) rfl hl.1 rfl (by decide) ⟨Nat.zero_le _, Nat.zero_le _⟩ dX7_pass_4 rfl (fun H locs h => ?_)
  refine lv_if_ne (tgt := 13) hx hb dX7_pass_7 (by decide) (fun c3 => ?_) (fun c3 => ?_)
  · have hF := it_f hF c3
    refine lv_aload_n hx hb dX7_pass_13 rfl (lv_at hl 0 rfl) ?_
    obtain ⟨r4, σ5, qr4, hF⟩ := bd_u hF
    refine bz_callV (rest := []) (st1 := []) C h (As := []) (o := none) (τ := σ5) (c_X7_record (l := l) ka0 (res := (r4, σ5)) qr4) ka0 (by decide) (ci := 7) rfl (cwV 0 hts (bz_gV wd_8_13 wd_8_14 wd_8_15 wd_1_5 wd_8_16) rfl rfl rfl (by decide +kernel) ⟨Nat.le_of_ble_eq_true rfl, Nat.le_of_ble_eq_true rfl⟩) rfl hl.1 rfl (by decide) ⟨Nat.zero_le _, Nat.zero_le _⟩ dX7_pass_14 rfl (fun H locs h => ?_)
    refine lv_iconst (v := 0) hx hb dX7_pass_17 (by decide) ?_
    refine lv_istore_n (lv' := [(2, .int 0), (0, .ref a0), (1, .int x1_)]) hx hb dX7_pass_18 rfl hl (by decide) rfl (fun ls hl => ?_)
    refine lv_iconst (v := 0) hx hb dX7_pass_19 (by decide) ?_
    refine lv_istore_n (lv' := [(3, .int 0), (2, .int 0), (0, .ref a0), (1, .int x1_)]) hx hb dX7_pass_20 rfl hl (by decide) rfl (fun ls hl => ?_)
    refine L_X7_pass_L21 C hlocks hr ka0 _ _ _ _ H locs ls hF h (lv_sub hl [2, 3, 1, 0] rfl) ?_
    intro x21 σ22 H locs ls hF h hl
    refine lv_iload_n hx hb dX7_pass_79 rfl (lv_at hl 0 rfl) ?_
    exact bz_iret C h hlocks hr hF dX7_pass_80
  · have hF := it_t hF c3
    refine lv_bipush (v := (-2)) hx hb dX7_pass_10 (by decide) ?_
    exact bz_iret C h hlocks hr hF dX7_pass_12
set_option maxHeartbeats 4000000 in
set_option maxRecDepth 100000 in
theorem c_X7_type {l : Launch} {G : bz_G} {σ : bz_W} {a0 : Nat} {x1_ : Int32} (ka0 : bz_k G a0 = (8, 0)) {res : Int32 × bz_W} (hF : f_X7_type σ a0 x1_ = some res) : bz_M l yX7_type wz_X7_type 1 21 G σ [.ref a0, .int x1_] (some (.int res.1)) res.2 := by
  refine bz_mk (cc := cX7_type) (maxL := 2) (ret := (some .int)) (own := RX7) (by decide) rfl rfl (Nat.le_of_ble_eq_true rfl) ?_
  intro p e s m args below meth c ls C hlocks hr h hl
  have hx := C.1
  have hb := C.2.1
  have hts := C.2.2.2.2.1
  have hl : lv_has ls 2 [(0, .ref a0), (1, .int x1_)] := hl
  obtain ⟨H, eH⟩ : ∃ y, y = s.heap := ⟨_, rfl⟩
  obtain ⟨locs, el⟩ : ∃ y : List Loc, y = [] := ⟨_, rfl⟩
  rw [← el, ← eH] at h ⊢
  unfold f_X7_type at hF
  refine lv_aload_n hx hb dX7_type_0 rfl (lv_at hl 0 rfl) ?_
  refine gf_7_6 C h ka0 iz_X7 (List.mem_cons_of_mem _ wd_22_9) dX7_type_1 ?_
  refine lv_bipush (v := 80) hx hb dX7_type_4 (by decide) ?_
  refine lv_icmp_ne (tgt := 15) hx hb dX7_type_6 (by decide) (fun c1 => ?_) (fun c1 => ?_)
  · have hF := it_f hF c1
    refine lv_aload_n hx hb dX7_type_15 rfl (lv_at hl 0 rfl) ?_
    refine gf_7_7 C h ka0 iz_X7 (List.mem_cons_of_mem _ wd_4_16) dX7_type_16 (fun k2 => ?_)
    refine lv_aload_n hx hb dX7_type_19 rfl (lv_at hl 0 rfl) ?_
    refine gf_7_6 C h ka0 iz_X7 (List.mem_cons_of_mem _ wd_22_9) dX7_type_20 ?_
    refine lv_iload_n hx hb dX7_type_23 rfl (lv_at hl 1 rfl) ?_
    obtain ⟨c3, hF⟩ := ck_u hF
    refine bz_cast C h k2 c3 (kx := ((σ.1 a0 6) : Int32).toNatClampNeg) rfl dX7_type_24 (fun H locs h => ?_)
    obtain ⟨σ4, eσ4⟩ : ∃ y : bz_W, y = bz_wi σ (σ.2 a0 7) ((σ.1 a0 6) : Int32).toNatClampNeg (vp_nar .char x1_) := ⟨_, rfl⟩
    rw [← eσ4] at h
    have hF := lt_u hF σ4 eσ4
    refine lv_aload_n hx hb dX7_type_25 rfl (lv_at hl 0 rfl) ?_
    refine lv_dup hx hb dX7_type_26 rfl ?_
    refine gf_7_6 C h ka0 iz_X7 (List.mem_cons_of_mem _ wd_22_9) dX7_type_27 ?_
    refine lv_iconst (v := 1) hx hb dX7_type_30 (by decide) ?_
    refine lv_iadd hx hb dX7_type_31 ?_
    refine pf_7_6 C h ka0 iz_X7 (List.mem_cons_of_mem _ wd_22_9) dX7_type_32 (fun H locs h => ?_)
    obtain ⟨σ5, eσ5⟩ : ∃ y : bz_W, y = bz_wi σ4 a0 6 ((σ4.1 a0 6) + 1) := ⟨_, rfl⟩
    rw [← eσ5] at h
    have hF := lt_u hF σ5 eσ5
    refine lv_aload_n hx hb dX7_type_35 rfl (lv_at hl 0 rfl) ?_
    refine gf_7_6 C h ka0 iz_X7 (List.mem_cons_of_mem _ wd_22_9) dX7_type_36 ?_
    exact bz_iret C h hlocks hr hF dX7_type_39
  · have hF := it_t hF c1
    refine lv_aload_n hx hb dX7_type_9 rfl (lv_at hl 0 rfl) ?_
    refine lv_iconst (v := 5) hx hb dX7_type_10 (by decide) ?_
    obtain ⟨r6, σ7, qr6, hF⟩ := bd_u hF
    refine bz_callV (rest := []) (st1 := [.int r6]) C h (As := [.int 5]) (o := some (.int r6)) (τ := σ7) (c_X7_refuse (l := l) ka0 (res := (r6, σ7)) qr6) ka0 (by decide) (ci := 7) rfl (cwV 1 hts (bz_gV wd_8_8 wd_8_9 wd_8_10 wd_1_5 wd_8_11) rfl rfl rfl (by decide +kernel) ⟨Nat.le_of_ble_eq_true rfl, Nat.le_of_ble_eq_true rfl⟩) rfl hl.1 rfl (by decide) ⟨Nat.zero_le _, Nat.zero_le _⟩ dX7_type_11 rfl (fun H locs h => ?_)
    exact bz_iret C h hlocks hr hF dX7_type_14
set_option maxHeartbeats 4000000 in
set_option maxRecDepth 100000 in
theorem c_X7_clearText {l : Launch} {G : bz_G} {σ : bz_W} {a0 : Nat} (ka0 : bz_k G a0 = (8, 0)) {res : Int32 × bz_W} (hF : f_X7_clearText σ a0 = some res) : bz_M l yX7_clearText wz_X7_clearText 0 0 G σ [.ref a0] (some (.int res.1)) res.2 := by
  refine bz_mk (cc := cX7_clearText) (maxL := 2) (ret := (some .int)) (own := RX7) (by decide) rfl rfl (Nat.le_of_ble_eq_true rfl) ?_
  intro p e s m args below meth c ls C hlocks hr h hl
  have hx := C.1
  have hb := C.2.1
  have hts := C.2.2.2.2.1
  have hl : lv_has ls 2 [(0, .ref a0)] := hl
  obtain ⟨H, eH⟩ : ∃ y, y = s.heap := ⟨_, rfl⟩
  obtain ⟨locs, el⟩ : ∃ y : List Loc, y = [] := ⟨_, rfl⟩
  rw [← el, ← eH] at h ⊢
  unfold f_X7_clearText at hF
  refine lv_aload_n hx hb dX7_clearText_0 rfl (lv_at hl 0 rfl) ?_
  refine gf_7_6 C h ka0 iz_X7 (List.mem_cons_of_mem _ wd_22_9) dX7_clearText_1 ?_
  refine lv_topi (fun x1 ex1 => ?_)
  have hF := lt_u hF x1 ex1
  refine lv_istore_n (lv' := [(1, .int x1), (0, .ref a0)]) hx hb dX7_clearText_4 rfl hl (by decide) rfl (fun ls hl => ?_)
  refine lv_aload_n hx hb dX7_clearText_5 rfl (lv_at hl 1 rfl) ?_
  refine lv_iconst (v := 0) hx hb dX7_clearText_6 (by decide) ?_
  refine pf_7_6 C h ka0 iz_X7 (List.mem_cons_of_mem _ wd_22_9) dX7_clearText_7 (fun H locs h => ?_)
  obtain ⟨σ2, eσ2⟩ : ∃ y : bz_W, y = bz_wi σ a0 6 0 := ⟨_, rfl⟩
  rw [← eσ2] at h
  have hF := lt_u hF σ2 eσ2
  refine lv_iload_n hx hb dX7_clearText_10 rfl (lv_at hl 0 rfl) ?_
  exact bz_iret C h hlocks hr hF dX7_clearText_11
set_option maxHeartbeats 4000000 in
set_option maxRecDepth 100000 in
theorem L_X7_end_L5 {p : Program} {l : Launch} {e : Env} {s : State} {m : MethodId} {args : Array Value} {below : List Frame} {meth : Method} {c : Code} {G : bz_G} (C : bz_C p s m c args cX7_end 2 RX7 wz_X7_end G) (hlocks : meth.locks = false) (hr : meth.sig.returnType = (some .int)) {a0 : Nat} (ka0 : bz_k G a0 = (8, 0)) {k : Int32 → bz_W → Option (Int32 × bz_W)} {res : Int32 × bz_W} : ∀ (n : Nat) (v1 : Int32) (σ : bz_W) (H : Heap) (locs : List Loc) (ls : Array Slot), f_X7_end_L5 a0 k n v1 σ = some res → bz_H G s σ H locs → lv_has ls 2 [(0, .ref a0), (1, .int v1)] → (∀ (w1 : Int32) (σ : bz_W) (H : Heap) (locs : List Loc) (ls : Array Slot), k w1 σ = some res → bz_H G s σ H locs → lv_has ls 2 [(1, .int w1)] → W p l e ({ frames := 0, cells := 0, slots := 0, locals := 0 } : Room) s m args below meth c H locs 0 0 (MQ below (bz_Qc G (some (.int res.1)) res.2) args s 0 0 (bz_A G)) (F0 m 41 ls [])) → W p l e ({ frames := 0, cells := 0, slots := 0, locals := 0 } : Room) s m args below meth c H locs 0 0 (MQ below (bz_Qc G (some (.int res.1)) res.2) args s 0 0 (bz_A G)) (F0 m 5 ls []) := by
  have hx := C.1
  have hb := C.2.1
  have hts := C.2.2.2.2.1
  intro n
  induction n with
  | zero =>
    intro v1 σ H locs ls hF
    exact absurd hF (by simp [f_X7_end_L5])
  | succ n ih =>
    intro v1 σ H locs ls hF h hl hk
    rw [f_X7_end_L5] at hF
    refine lv_iload_n hx hb dX7_end_5 rfl (lv_at hl 1 rfl) ?_
    refine lv_aload_n hx hb dX7_end_6 rfl (lv_at hl 0 rfl) ?_
    refine gf_7_6 C h ka0 iz_X7 (List.mem_cons_of_mem _ wd_22_9) dX7_end_7 ?_
    refine lv_icmp_ge (tgt := 41) hx hb dX7_end_10 (by decide) (fun c2 => ?_) (fun c2 => ?_)
    · have hF := it_t hF c2
      exact hk _ _ H locs ls hF h (lv_sub hl [1] rfl)
    · have hF := it_f hF c2
      refine lv_aload_n hx hb dX7_end_13 rfl (lv_at hl 0 rfl) ?_
      refine gf_7_7 C h ka0 iz_X7 (List.mem_cons_of_mem _ wd_4_16) dX7_end_14 (fun k3 => ?_)
      refine lv_iload_n hx hb dX7_end_17 rfl (lv_at hl 1 rfl) ?_
      obtain ⟨c4, hF⟩ := ck_u hF
      refine bz_cald C h k3 c4 (kx := v1.toNatClampNeg) rfl dX7_end_18 ?_
      refine lv_bipush (v := 32) hx hb dX7_end_19 (by decide) ?_
      refine lv_icmp_eq (tgt := 41) hx hb dX7_end_21 (by decide) (fun c5 => ?_) (fun c5 => ?_)
      · have hF := it_t hF c5
        exact hk _ _ H locs ls hF h (lv_sub hl [1] rfl)
      · have hF := it_f hF c5
        refine lv_aload_n hx hb dX7_end_24 rfl (lv_at hl 0 rfl) ?_
        refine gf_7_7 C h ka0 iz_X7 (List.mem_cons_of_mem _ wd_4_16) dX7_end_25 (fun k6 => ?_)
        refine lv_iload_n hx hb dX7_end_28 rfl (lv_at hl 1 rfl) ?_
        obtain ⟨c7, hF⟩ := ck_u hF
        refine bz_cald C h k6 c7 (kx := v1.toNatClampNeg) rfl dX7_end_29 ?_
        refine lv_bipush (v := 59) hx hb dX7_end_30 (by decide) ?_
        refine lv_icmp_eq (tgt := 41) hx hb dX7_end_32 (by decide) (fun c8 => ?_) (fun c8 => ?_)
        · have hF := it_t hF c8
          exact hk _ _ H locs ls hF h (lv_sub hl [1] rfl)
        · have hF := it_f hF c8
          obtain ⟨x9, ex9⟩ : ∃ y : Int32, y = v1 + 1 := ⟨_, rfl⟩
          have hF := lt_u hF x9 ex9
          refine lv_iinc (v := x9) (lv' := [(1, .int x9), (0, .ref a0)]) hx hb dX7_end_35 hl (k := 1) rfl (by rw [ex9]; rfl) (by decide) rfl (fun ls hl => ?_)
          refine lv_goto (tgt := 5) hx hb dX7_end_38 (by decide) ?_
          exact ih _ _ H locs ls hF h (lv_sub hl [1, 0] rfl) hk
set_option maxHeartbeats 4000000 in
set_option maxRecDepth 100000 in
theorem c_X7_end {l : Launch} {G : bz_G} {σ : bz_W} {a0 : Nat} (ka0 : bz_k G a0 = (8, 0)) {res : Int32 × bz_W} (hF : f_X7_end σ a0 = some res) : bz_M l yX7_end wz_X7_end 0 0 G σ [.ref a0] (some (.int res.1)) res.2 := by
  refine bz_mk (cc := cX7_end) (maxL := 2) (ret := (some .int)) (own := RX7) (by decide) rfl rfl (Nat.le_of_ble_eq_true rfl) ?_
  intro p e s m args below meth c ls C hlocks hr h hl
  have hx := C.1
  have hb := C.2.1
  have hts := C.2.2.2.2.1
  have hl : lv_has ls 2 [(0, .ref a0)] := hl
  obtain ⟨H, eH⟩ : ∃ y, y = s.heap := ⟨_, rfl⟩
  obtain ⟨locs, el⟩ : ∃ y : List Loc, y = [] := ⟨_, rfl⟩
  rw [← el, ← eH] at h ⊢
  unfold f_X7_end at hF
  refine lv_aload_n hx hb dX7_end_0 rfl (lv_at hl 0 rfl) ?_
  refine gf_7_8 C h ka0 iz_X7 (List.mem_cons_of_mem _ wd_27_14) dX7_end_1 ?_
  refine lv_topi (fun x1 ex1 => ?_)
  have hF := lt_u hF x1 ex1
  refine lv_istore_n (lv' := [(1, .int x1), (0, .ref a0)]) hx hb dX7_end_4 rfl hl (by decide) rfl (fun ls hl => ?_)
  refine L_X7_end_L5 C hlocks hr ka0 _ _ _ H locs ls hF h (lv_sub hl [1, 0] rfl) ?_
  intro x10 σ11 H locs ls hF h hl
  refine lv_iload_n hx hb dX7_end_41 rfl (lv_at hl 0 rfl) ?_
  exact bz_iret C h hlocks hr hF dX7_end_42
set_option maxHeartbeats 4000000 in
set_option maxRecDepth 100000 in
theorem L_X7_timeAt_L47 {p : Program} {l : Launch} {e : Env} {s : State} {m : MethodId} {args : Array Value} {below : List Frame} {meth : Method} {c : Code} {G : bz_G} (C : bz_C p s m c args cX7_timeAt 6 RX7 wz_X7_timeAt G) (hlocks : meth.locks = false) (hr : meth.sig.returnType = (some .int)) {a0 : Nat} {a1 : Int32} {a2 : Int32} (ka0 : bz_k G a0 = (8, 0)) {k : Int32 → bz_W → Option (Int32 × bz_W)} {res : Int32 × bz_W} : ∀ (n : Nat) (v4 : Int32) (v5 : Int32) (σ : bz_W) (H : Heap) (locs : List Loc) (ls : Array Slot), f_X7_timeAt_L47 a0 a1 a2 k n v4 v5 σ = some res → bz_H G s σ H locs → lv_has ls 6 [(0, .ref a0), (1, .int a1), (2, .int a2), (4, .int v4), (5, .int v5)] → (∀ (w4 : Int32) (σ : bz_W) (H : Heap) (locs : List Loc) (ls : Array Slot), k w4 σ = some res → bz_H G s σ H locs → lv_has ls 6 [(2, .int a2), (4, .int w4)] → W p l e ({ frames := 1, cells := 0, slots := 0, locals := 22 } : Room) s m args below meth c H locs 0 0 (MQ below (bz_Qc G (some (.int res.1)) res.2) args s 0 0 (bz_A G)) (F0 m 97 ls [])) → W p l e ({ frames := 1, cells := 0, slots := 0, locals := 22 } : Room) s m args below meth c H locs 0 0 (MQ below (bz_Qc G (some (.int res.1)) res.2) args s 0 0 (bz_A G)) (F0 m 47 ls []) := by
  have hx := C.1
  have hb := C.2.1
  have hts := C.2.2.2.2.1
  intro n
  induction n with
  | zero =>
    intro v4 v5 σ H locs ls hF
    exact absurd hF (by simp [f_X7_timeAt_L47])
  | succ n ih =>
    intro v4 v5 σ H locs ls hF h hl hk
    rw [f_X7_timeAt_L47] at hF
    refine lv_iload hx hb dX7_timeAt_47 (lv_at hl 4 rfl) ?_
    refine lv_iload_n hx hb dX7_timeAt_49 rfl (lv_at hl 1 rfl) ?_
    refine lv_icmp_ge (tgt := 97) hx hb dX7_timeAt_50 (by decide) (fun c8 => ?_) (fun c8 => ?_)
    · have hF := it_t hF c8
      exact hk _ _ H locs ls hF h (lv_sub hl [2, 3] rfl)
    · have hF := it_f hF c8
      refine lv_aload_n hx hb dX7_timeAt_53 rfl (lv_at hl 0 rfl) ?_
      refine gf_7_7 C h ka0 iz_X7 (List.mem_cons_of_mem _ wd_4_16) dX7_timeAt_54 (fun k9 => ?_)
      refine lv_iload hx hb dX7_timeAt_57 (lv_at hl 4 rfl) ?_
      obtain ⟨c10, hF⟩ := ck_u hF
      refine bz_cald C h k9 c10 (kx := v5.toNatClampNeg) rfl dX7_timeAt_59 ?_
      refine lv_bipush (v := 48) hx hb dX7_timeAt_60 (by decide) ?_
      refine lv_bipush (v := 57) hx hb dX7_timeAt_62 (by decide) ?_
      obtain ⟨r11, σ12, qr11, hF⟩ := bd_u hF
      refine bz_callS (rest := []) (st1 := [.int r11]) C h (As := [.int (σ.1 (σ.2 a0 7) v5.toNatClampNeg), .int 48, .int 57]) (o := some (.int r11)) (τ := σ12) (c_X7_in (l := l)  (res := (r11, σ12)) qr11) (va_cwS 3 hts (bz_gS wd_8_5 wd_8_6 wd_1_5 wd_8_7) rfl rfl rfl (by decide +kernel) ⟨Nat.le_of_ble_eq_true rfl, Nat.le_of_ble_eq_true rfl⟩) rfl hl.1 rfl (by decide) ⟨Nat.zero_le _, Nat.zero_le _⟩ dX7_timeAt_64 rfl (fun H locs h => ?_)
      refine lv_if_ne (tgt := 73) hx hb dX7_timeAt_67 (by decide) (fun c13 => ?_) (fun c13 => ?_)
      · have hF := it_f hF c13
        refine lv_bipush (v := 10) hx hb dX7_timeAt_73 (by decide) ?_
        refine lv_iload hx hb dX7_timeAt_75 (lv_at hl 3 rfl) ?_
        refine lv_imul hx hb dX7_timeAt_77 ?_
        refine lv_aload_n hx hb dX7_timeAt_78 rfl (lv_at hl 0 rfl) ?_
        refine gf_7_7 C h ka0 iz_X7 (List.mem_cons_of_mem _ wd_4_16) dX7_timeAt_79 (fun k14 => ?_)
        refine lv_iload hx hb dX7_timeAt_82 (lv_at hl 4 rfl) ?_
        obtain ⟨c15, hF⟩ := ck_u hF
        refine bz_cald C h k14 c15 (kx := v5.toNatClampNeg) rfl dX7_timeAt_84 ?_
        refine lv_iadd hx hb dX7_timeAt_85 ?_
        refine lv_bipush (v := 48) hx hb dX7_timeAt_86 (by decide) ?_
        refine lv_isub hx hb dX7_timeAt_88 ?_
        refine lv_topi (fun x16 ex16 => ?_)
        have hF := lt_u hF x16 ex16
        refine lv_istore (lv' := [(4, .int x16), (0, .ref a0), (1, .int a1), (2, .int a2), (5, .int v5)]) hx hb dX7_timeAt_89 hl (by decide) rfl (fun ls hl => ?_)
        obtain ⟨x17, ex17⟩ : ∃ y : Int32, y = v5 + 1 := ⟨_, rfl⟩
        have hF := lt_u hF x17 ex17
        refine lv_iinc (v := x17) (lv' := [(5, .int x17), (4, .int x16), (0, .ref a0), (1, .int a1), (2, .int a2)]) hx hb dX7_timeAt_91 hl (k := 4) rfl (by rw [ex17]; rfl) (by decide) rfl (fun ls hl => ?_)
        refine lv_goto (tgt := 47) hx hb dX7_timeAt_94 (by decide) ?_
        exact ih _ _ _ H locs ls hF h (lv_sub hl [2, 3, 4, 1, 0] rfl) hk
      · have hF := it_t hF c13
        refine lv_bipush (v := (-4)) hx hb dX7_timeAt_70 (by decide) ?_
        exact bz_iret C h hlocks hr hF dX7_timeAt_72
set_option maxHeartbeats 4000000 in
set_option maxRecDepth 100000 in
theorem c_X7_timeAt {l : Launch} {G : bz_G} {σ : bz_W} {a0 : Nat} {x1_ : Int32} {x2_ : Int32} (ka0 : bz_k G a0 = (8, 0)) {res : Int32 × bz_W} (hF : f_X7_timeAt σ a0 x1_ x2_ = some res) : bz_M l yX7_timeAt wz_X7_timeAt 1 22 G σ [.ref a0, .int x1_, .int x2_] (some (.int res.1)) res.2 := by
  refine bz_mk (cc := cX7_timeAt) (maxL := 6) (ret := (some .int)) (own := RX7) (by decide) rfl rfl (Nat.le_of_ble_eq_true rfl) ?_
  intro p e s m args below meth c ls C hlocks hr h hl
  have hx := C.1
  have hb := C.2.1
  have hts := C.2.2.2.2.1
  have hl : lv_has ls 6 [(0, .ref a0), (1, .int x1_), (2, .int x2_)] := hl
  obtain ⟨H, eH⟩ : ∃ y, y = s.heap := ⟨_, rfl⟩
  obtain ⟨locs, el⟩ : ∃ y : List Loc, y = [] := ⟨_, rfl⟩
  rw [← el, ← eH] at h ⊢
  unfold f_X7_timeAt at hF
  refine lv_iload_n hx hb dX7_timeAt_0 rfl (lv_at hl 1 rfl) ?_
  refine lv_aload_n hx hb dX7_timeAt_1 rfl (lv_at hl 0 rfl) ?_
  refine gf_7_8 C h ka0 iz_X7 (List.mem_cons_of_mem _ wd_27_14) dX7_timeAt_2 ?_
  refine lv_isub hx hb dX7_timeAt_5 ?_
  refine lv_topi (fun x1 ex1 => ?_)
  have hF := lt_u hF x1 ex1
  refine lv_istore_n (lv' := [(3, .int x1), (0, .ref a0), (1, .int x1_), (2, .int x2_)]) hx hb dX7_timeAt_6 rfl hl (by decide) rfl (fun ls hl => ?_)
  refine lv_iload_n hx hb dX7_timeAt_7 rfl (lv_at hl 0 rfl) ?_
  refine lv_iconst (v := 1) hx hb dX7_timeAt_8 (by decide) ?_
  refine lv_iconst (v := 4) hx hb dX7_timeAt_9 (by decide) ?_
  obtain ⟨r2, σ3, qr2, hF⟩ := bd_u hF
  refine bz_callS (rest := []) (st1 := [.int r2]) C h (As := [.int x1, .int 1, .int 4]) (o := some (.int r2)) (τ := σ3) (c_X7_in (l := l)  (res := (r2, σ3)) qr2) (va_cwS 3 hts (bz_gS wd_8_5 wd_8_6 wd_1_5 wd_8_7) rfl rfl rfl (by decide +kernel) ⟨Nat.le_of_ble_eq_true rfl, Nat.le_of_ble_eq_true rfl⟩) rfl hl.1 rfl (by decide) ⟨Nat.zero_le _, Nat.zero_le _⟩ dX7_timeAt_10 rfl (fun H locs h => ?_)
  refine lv_if_eq (tgt := 35) hx hb dX7_timeAt_13 (by decide) (fun c4 => ?_) (fun c4 => ?_)
  · have hF := it_t hF c4
    refine lv_bipush (v := (-4)) hx hb dX7_timeAt_35 (by decide) ?_
    exact bz_iret C h hlocks hr hF dX7_timeAt_37
  · have hF := it_f hF c4
    refine lv_iload_n hx hb dX7_timeAt_16 rfl (lv_at hl 0 rfl) ?_
    refine lv_iconst (v := 1) hx hb dX7_timeAt_17 (by decide) ?_
    obtain ⟨j6, ej6, hF⟩ := lt_j hF
    have hj6 : ∀ (σ5 : bz_W) (H : Heap) (locs : List Loc) (ls : Array Slot), j6 σ5 = some res → bz_H G s σ5 H locs → lv_has ls 6 [(0, .ref a0), (1, .int x1_), (2, .int x2_)] → W p l e ({ frames := 1, cells := 0, slots := 0, locals := 22 } : Room) s m args below meth c H locs 0 0 (MQ below (bz_Qc G (some (.int res.1)) res.2) args s 0 0 (bz_A G)) (F0 m 38 ls []) := by
        intro σ5 H locs ls hF h hl
        subst ej6
        refine lv_iconst (v := 0) hx hb dX7_timeAt_38 (by decide) ?_
        refine lv_istore (lv' := [(4, .int 0), (0, .ref a0), (1, .int x1_), (2, .int x2_)]) hx hb dX7_timeAt_39 hl (by decide) rfl (fun ls hl => ?_)
        refine lv_aload_n hx hb dX7_timeAt_41 rfl (lv_at hl 1 rfl) ?_
        refine gf_7_8 C h ka0 iz_X7 (List.mem_cons_of_mem _ wd_27_14) dX7_timeAt_42 ?_
        refine lv_topi (fun x7 ex7 => ?_)
        have hF := lt_u hF x7 ex7
        refine lv_istore (lv' := [(5, .int x7), (4, .int 0), (0, .ref a0), (1, .int x1_), (2, .int x2_)]) hx hb dX7_timeAt_45 hl (by decide) rfl (fun ls hl => ?_)
        refine L_X7_timeAt_L47 C hlocks hr ka0 _ _ _ _ H locs ls hF h (lv_sub hl [2, 3, 4, 1, 0] rfl) ?_
        intro x18 σ19 H locs ls hF h hl
        refine lv_iload hx hb dX7_timeAt_97 (lv_at hl 1 rfl) ?_
        refine lv_iload_n hx hb dX7_timeAt_99 rfl (lv_at hl 0 rfl) ?_
        refine lv_icmp_ge (tgt := 108) hx hb dX7_timeAt_100 (by decide) (fun c20 => ?_) (fun c20 => ?_)
        · have hF := it_t hF c20
          refine lv_iload hx hb dX7_timeAt_108 (lv_at hl 1 rfl) ?_
          exact bz_iret C h hlocks hr hF dX7_timeAt_110
        · have hF := it_f hF c20
          refine lv_bipush (v := (-4)) hx hb dX7_timeAt_103 (by decide) ?_
          refine lv_goto (tgt := 110) hx hb dX7_timeAt_105 (by decide) ?_
          exact bz_iret C h hlocks hr hF dX7_timeAt_110
    refine lv_icmp_le (tgt := 38) hx hb dX7_timeAt_18 (by decide) (fun c21 => ?_) (fun c21 => ?_)
    · have hF := it_t hF c21
      exact hj6 _ H locs ls hF h (lv_sub hl [1, 2, 3] rfl)
    · have hF := it_f hF c21
      refine lv_aload_n hx hb dX7_timeAt_21 rfl (lv_at hl 1 rfl) ?_
      refine gf_7_7 C h ka0 iz_X7 (List.mem_cons_of_mem _ wd_4_16) dX7_timeAt_22 (fun k22 => ?_)
      refine lv_aload_n hx hb dX7_timeAt_25 rfl (lv_at hl 1 rfl) ?_
      refine gf_7_8 C h ka0 iz_X7 (List.mem_cons_of_mem _ wd_27_14) dX7_timeAt_26 ?_
      obtain ⟨c23, hF⟩ := ck_u hF
      refine bz_cald C h k22 c23 (kx := ((σ3.1 a0 8) : Int32).toNatClampNeg) rfl dX7_timeAt_29 ?_
      refine lv_bipush (v := 48) hx hb dX7_timeAt_30 (by decide) ?_
      refine lv_icmp_ne (tgt := 38) hx hb dX7_timeAt_32 (by decide) (fun c24 => ?_) (fun c24 => ?_)
      · have hF := it_f hF c24
        exact hj6 _ H locs ls hF h (lv_sub hl [1, 2, 3] rfl)
      · have hF := it_t hF c24
        refine lv_bipush (v := (-4)) hx hb dX7_timeAt_35 (by decide) ?_
        exact bz_iret C h hlocks hr hF dX7_timeAt_37
set_option maxHeartbeats 4000000 in
set_option maxRecDepth 100000 in
theorem c_X7_isWord {l : Launch} {G : bz_G} {σ : bz_W} {a0 : Nat} {x1_ : Int32} {x2_ : Int32} {x3_ : Int32} {x4_ : Int32} {x5_ : Int32} {x6_ : Int32} {x7_ : Int32} (ka0 : bz_k G a0 = (8, 0)) {res : Int32 × bz_W} (hF : f_X7_isWord σ a0 x1_ x2_ x3_ x4_ x5_ x6_ x7_ = some res) : bz_M l yX7_isWord wz_X7_isWord 0 0 G σ [.ref a0, .int x1_, .int x2_, .int x3_, .int x4_, .int x5_, .int x6_, .int x7_] (some (.int res.1)) res.2 := by
  refine bz_mk (cc := cX7_isWord) (maxL := 8) (ret := (some .boolean)) (own := RX7) (by decide) rfl rfl (Nat.le_of_ble_eq_true rfl) ?_
  intro p e s m args below meth c ls C hlocks hr h hl
  have hx := C.1
  have hb := C.2.1
  have hts := C.2.2.2.2.1
  have hl : lv_has ls 8 [(0, .ref a0), (1, .int x1_), (2, .int x2_), (3, .int x3_), (4, .int x4_), (5, .int x5_), (6, .int x6_), (7, .int x7_)] := hl
  obtain ⟨H, eH⟩ : ∃ y, y = s.heap := ⟨_, rfl⟩
  obtain ⟨locs, el⟩ : ∃ y : List Loc, y = [] := ⟨_, rfl⟩
  rw [← el, ← eH] at h ⊢
  unfold f_X7_isWord at hF
  refine lv_iload_n hx hb dX7_isWord_0 rfl (lv_at hl 1 rfl) ?_
  refine lv_aload_n hx hb dX7_isWord_1 rfl (lv_at hl 0 rfl) ?_
  refine gf_7_8 C h ka0 iz_X7 (List.mem_cons_of_mem _ wd_27_14) dX7_isWord_2 ?_
  refine lv_isub hx hb dX7_isWord_5 ?_
  refine lv_iload_n hx hb dX7_isWord_6 rfl (lv_at hl 2 rfl) ?_
  refine lv_icmp_ne (tgt := 55) hx hb dX7_isWord_7 (by decide) (fun c1 => ?_) (fun c1 => ?_)
  · have hF := it_f hF c1
    refine lv_iconst (v := 0) hx hb dX7_isWord_55 (by decide) ?_
    exact bz_zret C h hlocks hr (by decide) hF dX7_isWord_56
  · have hF := it_t hF c1
    refine lv_aload_n hx hb dX7_isWord_10 rfl (lv_at hl 0 rfl) ?_
    refine gf_7_7 C h ka0 iz_X7 (List.mem_cons_of_mem _ wd_4_16) dX7_isWord_11 (fun k2 => ?_)
    refine lv_aload_n hx hb dX7_isWord_14 rfl (lv_at hl 0 rfl) ?_
    refine gf_7_8 C h ka0 iz_X7 (List.mem_cons_of_mem _ wd_27_14) dX7_isWord_15 ?_
    obtain ⟨c3, hF⟩ := ck_u hF
    refine bz_cald C h k2 c3 (kx := ((σ.1 a0 8) : Int32).toNatClampNeg) rfl dX7_isWord_18 ?_
    refine lv_iload_n hx hb dX7_isWord_19 rfl (lv_at hl 3 rfl) ?_
    refine lv_icmp_ne (tgt := 55) hx hb dX7_isWord_20 (by decide) (fun c4 => ?_) (fun c4 => ?_)
    · have hF := it_f hF c4
      refine lv_iconst (v := 0) hx hb dX7_isWord_55 (by decide) ?_
      exact bz_zret C h hlocks hr (by decide) hF dX7_isWord_56
    · have hF := it_t hF c4
      refine lv_aload_n hx hb dX7_isWord_23 rfl (lv_at hl 0 rfl) ?_
      refine gf_7_7 C h ka0 iz_X7 (List.mem_cons_of_mem _ wd_4_16) dX7_isWord_24 (fun k5 => ?_)
      refine lv_aload_n hx hb dX7_isWord_27 rfl (lv_at hl 0 rfl) ?_
      refine gf_7_8 C h ka0 iz_X7 (List.mem_cons_of_mem _ wd_27_14) dX7_isWord_28 ?_
      refine lv_iconst (v := 1) hx hb dX7_isWord_31 (by decide) ?_
      refine lv_iadd hx hb dX7_isWord_32 ?_
      obtain ⟨c6, hF⟩ := ck_u hF
      refine bz_cald C h k5 c6 (kx := (((σ.1 a0 8) + 1) : Int32).toNatClampNeg) rfl dX7_isWord_33 ?_
      refine lv_iload hx hb dX7_isWord_34 (lv_at hl 4 rfl) ?_
      refine lv_icmp_ne (tgt := 55) hx hb dX7_isWord_36 (by decide) (fun c7 => ?_) (fun c7 => ?_)
      · have hF := it_f hF c7
        refine lv_iconst (v := 0) hx hb dX7_isWord_55 (by decide) ?_
        exact bz_zret C h hlocks hr (by decide) hF dX7_isWord_56
      · have hF := it_t hF c7
        refine lv_aload_n hx hb dX7_isWord_39 rfl (lv_at hl 0 rfl) ?_
        refine gf_7_7 C h ka0 iz_X7 (List.mem_cons_of_mem _ wd_4_16) dX7_isWord_40 (fun k8 => ?_)
        refine lv_aload_n hx hb dX7_isWord_43 rfl (lv_at hl 0 rfl) ?_
        refine gf_7_8 C h ka0 iz_X7 (List.mem_cons_of_mem _ wd_27_14) dX7_isWord_44 ?_
        refine lv_iconst (v := 2) hx hb dX7_isWord_47 (by decide) ?_
        refine lv_iadd hx hb dX7_isWord_48 ?_
        obtain ⟨c9, hF⟩ := ck_u hF
        refine bz_cald C h k8 c9 (kx := (((σ.1 a0 8) + 2) : Int32).toNatClampNeg) rfl dX7_isWord_49 ?_
        refine lv_iload hx hb dX7_isWord_50 (lv_at hl 5 rfl) ?_
        refine lv_icmp_eq (tgt := 57) hx hb dX7_isWord_52 (by decide) (fun c10 => ?_) (fun c10 => ?_)
        · have hF := it_t hF c10
          refine lv_iload_n hx hb dX7_isWord_57 rfl (lv_at hl 2 rfl) ?_
          refine lv_iconst (v := 4) hx hb dX7_isWord_58 (by decide) ?_
          obtain ⟨j12, ej12, hF⟩ := lt_j hF
          have hj12 : ∀ (σ11 : bz_W) (H : Heap) (locs : List Loc) (ls : Array Slot), j12 σ11 = some res → bz_H G s σ11 H locs → lv_has ls 8 [(0, .ref a0), (2, .int x2_), (7, .int x7_)] → W p l e ({ frames := 0, cells := 0, slots := 0, locals := 0 } : Room) s m args below meth c H locs 0 0 (MQ below (bz_Qc G (some (.int res.1)) res.2) args s 0 0 (bz_A G)) (F0 m 78 ls []) := by
              intro σ11 H locs ls hF h hl
              subst ej12
              refine lv_iload_n hx hb dX7_isWord_78 rfl (lv_at hl 1 rfl) ?_
              refine lv_iconst (v := 5) hx hb dX7_isWord_79 (by decide) ?_
              refine lv_icmp_lt (tgt := 99) hx hb dX7_isWord_80 (by decide) (fun c13 => ?_) (fun c13 => ?_)
              · have hF := it_t hF c13
                refine lv_iconst (v := 1) hx hb dX7_isWord_99 (by decide) ?_
                refine lv_goto (tgt := 104) hx hb dX7_isWord_100 (by decide) ?_
                exact bz_zret C h hlocks hr (by decide) hF dX7_isWord_104
              · have hF := it_f hF c13
                refine lv_aload_n hx hb dX7_isWord_83 rfl (lv_at hl 0 rfl) ?_
                refine gf_7_7 C h ka0 iz_X7 (List.mem_cons_of_mem _ wd_4_16) dX7_isWord_84 (fun k14 => ?_)
                refine lv_aload_n hx hb dX7_isWord_87 rfl (lv_at hl 0 rfl) ?_
                refine gf_7_8 C h ka0 iz_X7 (List.mem_cons_of_mem _ wd_27_14) dX7_isWord_88 ?_
                refine lv_iconst (v := 4) hx hb dX7_isWord_91 (by decide) ?_
                refine lv_iadd hx hb dX7_isWord_92 ?_
                obtain ⟨c15, hF⟩ := ck_u hF
                refine bz_cald C h k14 c15 (kx := (((σ11.1 a0 8) + 4) : Int32).toNatClampNeg) rfl dX7_isWord_93 ?_
                refine lv_iload hx hb dX7_isWord_94 (lv_at hl 2 rfl) ?_
                refine lv_icmp_ne (tgt := 103) hx hb dX7_isWord_96 (by decide) (fun c16 => ?_) (fun c16 => ?_)
                · have hF := it_f hF c16
                  refine lv_iconst (v := 0) hx hb dX7_isWord_103 (by decide) ?_
                  exact bz_zret C h hlocks hr (by decide) hF dX7_isWord_104
                · have hF := it_t hF c16
                  refine lv_iconst (v := 1) hx hb dX7_isWord_99 (by decide) ?_
                  refine lv_goto (tgt := 104) hx hb dX7_isWord_100 (by decide) ?_
                  exact bz_zret C h hlocks hr (by decide) hF dX7_isWord_104
          refine lv_icmp_lt (tgt := 78) hx hb dX7_isWord_59 (by decide) (fun c17 => ?_) (fun c17 => ?_)
          · have hF := it_t hF c17
            exact hj12 _ H locs ls hF h (lv_sub hl [0, 2, 7] rfl)
          · have hF := it_f hF c17
            refine lv_aload_n hx hb dX7_isWord_62 rfl (lv_at hl 0 rfl) ?_
            refine gf_7_7 C h ka0 iz_X7 (List.mem_cons_of_mem _ wd_4_16) dX7_isWord_63 (fun k18 => ?_)
            refine lv_aload_n hx hb dX7_isWord_66 rfl (lv_at hl 0 rfl) ?_
            refine gf_7_8 C h ka0 iz_X7 (List.mem_cons_of_mem _ wd_27_14) dX7_isWord_67 ?_
            refine lv_iconst (v := 3) hx hb dX7_isWord_70 (by decide) ?_
            refine lv_iadd hx hb dX7_isWord_71 ?_
            obtain ⟨c19, hF⟩ := ck_u hF
            refine bz_cald C h k18 c19 (kx := (((σ.1 a0 8) + 3) : Int32).toNatClampNeg) rfl dX7_isWord_72 ?_
            refine lv_iload hx hb dX7_isWord_73 (lv_at hl 6 rfl) ?_
            refine lv_icmp_ne (tgt := 103) hx hb dX7_isWord_75 (by decide) (fun c20 => ?_) (fun c20 => ?_)
            · have hF := it_f hF c20
              refine lv_iconst (v := 0) hx hb dX7_isWord_103 (by decide) ?_
              exact bz_zret C h hlocks hr (by decide) hF dX7_isWord_104
            · have hF := it_t hF c20
              exact hj12 _ H locs ls hF h (lv_sub hl [0, 2, 7] rfl)
        · have hF := it_f hF c10
          refine lv_iconst (v := 0) hx hb dX7_isWord_55 (by decide) ?_
          exact bz_zret C h hlocks hr (by decide) hF dX7_isWord_56
set_option maxHeartbeats 4000000 in
set_option maxRecDepth 100000 in
theorem c_X7_wordAt {l : Launch} {G : bz_G} {σ : bz_W} {a0 : Nat} {x1_ : Int32} (ka0 : bz_k G a0 = (8, 0)) {res : Int32 × bz_W} (hF : f_X7_wordAt σ a0 x1_ = some res) : bz_M l yX7_wordAt wz_X7_wordAt 1 27 G σ [.ref a0, .int x1_] (some (.int res.1)) res.2 := by
  refine bz_mk (cc := cX7_wordAt) (maxL := 2) (ret := (some .int)) (own := RX7) (by decide) rfl rfl (Nat.le_of_ble_eq_true rfl) ?_
  intro p e s m args below meth c ls C hlocks hr h hl
  have hx := C.1
  have hb := C.2.1
  have hts := C.2.2.2.2.1
  have hl : lv_has ls 2 [(0, .ref a0), (1, .int x1_)] := hl
  obtain ⟨H, eH⟩ : ∃ y, y = s.heap := ⟨_, rfl⟩
  obtain ⟨locs, el⟩ : ∃ y : List Loc, y = [] := ⟨_, rfl⟩
  rw [← el, ← eH] at h ⊢
  unfold f_X7_wordAt at hF
  refine lv_aload_n hx hb dX7_wordAt_0 rfl (lv_at hl 0 rfl) ?_
  refine lv_iload_n hx hb dX7_wordAt_1 rfl (lv_at hl 1 rfl) ?_
  refine lv_iconst (v := 5) hx hb dX7_wordAt_2 (by decide) ?_
  refine lv_bipush (v := 115) hx hb dX7_wordAt_3 (by decide) ?_
  refine lv_bipush (v := 116) hx hb dX7_wordAt_5 (by decide) ?_
  refine lv_bipush (v := 97) hx hb dX7_wordAt_7 (by decide) ?_
  refine lv_bipush (v := 114) hx hb dX7_wordAt_9 (by decide) ?_
  refine lv_bipush (v := 116) hx hb dX7_wordAt_11 (by decide) ?_
  obtain ⟨r1, σ2, qr1, hF⟩ := bd_u hF
  refine bz_callV (rest := []) (st1 := [.int r1]) C h (As := [.int x1_, .int 5, .int 115, .int 116, .int 97, .int 114, .int 116]) (o := some (.int r1)) (τ := σ2) (c_X7_isWord (l := l) ka0 (res := (r1, σ2)) qr1) ka0 (by decide) (ci := 7) rfl (cwV 7 hts (bz_gV wd_28_12 wd_28_13 wd_28_14 wd_1_5 wd_28_15) rfl rfl rfl (by decide +kernel) ⟨Nat.le_of_ble_eq_true rfl, Nat.le_of_ble_eq_true rfl⟩) rfl hl.1 rfl (by decide) ⟨Nat.zero_le _, Nat.zero_le _⟩ dX7_wordAt_13 rfl (fun H locs h => ?_)
  refine lv_if_eq (tgt := 21) hx hb dX7_wordAt_16 (by decide) (fun c3 => ?_) (fun c3 => ?_)
  · have hF := it_t hF c3
    refine lv_aload_n hx hb dX7_wordAt_21 rfl (lv_at hl 0 rfl) ?_
    refine lv_iload_n hx hb dX7_wordAt_22 rfl (lv_at hl 1 rfl) ?_
    refine lv_iconst (v := 4) hx hb dX7_wordAt_23 (by decide) ?_
    refine lv_bipush (v := 115) hx hb dX7_wordAt_24 (by decide) ?_
    refine lv_bipush (v := 116) hx hb dX7_wordAt_26 (by decide) ?_
    refine lv_bipush (v := 111) hx hb dX7_wordAt_28 (by decide) ?_
    refine lv_bipush (v := 112) hx hb dX7_wordAt_30 (by decide) ?_
    refine lv_iconst (v := 0) hx hb dX7_wordAt_32 (by decide) ?_
    obtain ⟨r4, σ5, qr4, hF⟩ := bd_u hF
    refine bz_callV (rest := []) (st1 := [.int r4]) C h (As := [.int x1_, .int 4, .int 115, .int 116, .int 111, .int 112, .int 0]) (o := some (.int r4)) (τ := σ5) (c_X7_isWord (l := l) ka0 (res := (r4, σ5)) qr4) ka0 (by decide) (ci := 7) rfl (cwV 7 hts (bz_gV wd_28_12 wd_28_13 wd_28_14 wd_1_5 wd_28_15) rfl rfl rfl (by decide +kernel) ⟨Nat.le_of_ble_eq_true rfl, Nat.le_of_ble_eq_true rfl⟩) rfl hl.1 rfl (by decide) ⟨Nat.zero_le _, Nat.zero_le _⟩ dX7_wordAt_33 rfl (fun H locs h => ?_)
    refine lv_if_eq (tgt := 41) hx hb dX7_wordAt_36 (by decide) (fun c6 => ?_) (fun c6 => ?_)
    · have hF := it_t hF c6
      refine lv_aload_n hx hb dX7_wordAt_41 rfl (lv_at hl 0 rfl) ?_
      refine lv_iload_n hx hb dX7_wordAt_42 rfl (lv_at hl 1 rfl) ?_
      refine lv_iconst (v := 4) hx hb dX7_wordAt_43 (by decide) ?_
      refine lv_bipush (v := 108) hx hb dX7_wordAt_44 (by decide) ?_
      refine lv_bipush (v := 111) hx hb dX7_wordAt_46 (by decide) ?_
      refine lv_bipush (v := 115) hx hb dX7_wordAt_48 (by decide) ?_
      refine lv_bipush (v := 101) hx hb dX7_wordAt_50 (by decide) ?_
      refine lv_iconst (v := 0) hx hb dX7_wordAt_52 (by decide) ?_
      obtain ⟨r7, σ8, qr7, hF⟩ := bd_u hF
      refine bz_callV (rest := []) (st1 := [.int r7]) C h (As := [.int x1_, .int 4, .int 108, .int 111, .int 115, .int 101, .int 0]) (o := some (.int r7)) (τ := σ8) (c_X7_isWord (l := l) ka0 (res := (r7, σ8)) qr7) ka0 (by decide) (ci := 7) rfl (cwV 7 hts (bz_gV wd_28_12 wd_28_13 wd_28_14 wd_1_5 wd_28_15) rfl rfl rfl (by decide +kernel) ⟨Nat.le_of_ble_eq_true rfl, Nat.le_of_ble_eq_true rfl⟩) rfl hl.1 rfl (by decide) ⟨Nat.zero_le _, Nat.zero_le _⟩ dX7_wordAt_53 rfl (fun H locs h => ?_)
      refine lv_if_eq (tgt := 61) hx hb dX7_wordAt_56 (by decide) (fun c9 => ?_) (fun c9 => ?_)
      · have hF := it_t hF c9
        refine lv_aload_n hx hb dX7_wordAt_61 rfl (lv_at hl 0 rfl) ?_
        refine lv_iload_n hx hb dX7_wordAt_62 rfl (lv_at hl 1 rfl) ?_
        refine lv_iconst (v := 5) hx hb dX7_wordAt_63 (by decide) ?_
        refine lv_bipush (v := 114) hx hb dX7_wordAt_64 (by decide) ?_
        refine lv_bipush (v := 101) hx hb dX7_wordAt_66 (by decide) ?_
        refine lv_bipush (v := 115) hx hb dX7_wordAt_68 (by decide) ?_
        refine lv_bipush (v := 101) hx hb dX7_wordAt_70 (by decide) ?_
        refine lv_bipush (v := 116) hx hb dX7_wordAt_72 (by decide) ?_
        obtain ⟨r10, σ11, qr10, hF⟩ := bd_u hF
        refine bz_callV (rest := []) (st1 := [.int r10]) C h (As := [.int x1_, .int 5, .int 114, .int 101, .int 115, .int 101, .int 116]) (o := some (.int r10)) (τ := σ11) (c_X7_isWord (l := l) ka0 (res := (r10, σ11)) qr10) ka0 (by decide) (ci := 7) rfl (cwV 7 hts (bz_gV wd_28_12 wd_28_13 wd_28_14 wd_1_5 wd_28_15) rfl rfl rfl (by decide +kernel) ⟨Nat.le_of_ble_eq_true rfl, Nat.le_of_ble_eq_true rfl⟩) rfl hl.1 rfl (by decide) ⟨Nat.zero_le _, Nat.zero_le _⟩ dX7_wordAt_74 rfl (fun H locs h => ?_)
        refine lv_if_eq (tgt := 82) hx hb dX7_wordAt_77 (by decide) (fun c12 => ?_) (fun c12 => ?_)
        · have hF := it_t hF c12
          refine lv_aload_n hx hb dX7_wordAt_82 rfl (lv_at hl 0 rfl) ?_
          refine lv_iload_n hx hb dX7_wordAt_83 rfl (lv_at hl 1 rfl) ?_
          refine lv_iconst (v := 3) hx hb dX7_wordAt_84 (by decide) ?_
          refine lv_bipush (v := 102) hx hb dX7_wordAt_85 (by decide) ?_
          refine lv_bipush (v := 97) hx hb dX7_wordAt_87 (by decide) ?_
          refine lv_bipush (v := 110) hx hb dX7_wordAt_89 (by decide) ?_
          refine lv_iconst (v := 0) hx hb dX7_wordAt_91 (by decide) ?_
          refine lv_iconst (v := 0) hx hb dX7_wordAt_92 (by decide) ?_
          obtain ⟨r13, σ14, qr13, hF⟩ := bd_u hF
          refine bz_callV (rest := []) (st1 := [.int r13]) C h (As := [.int x1_, .int 3, .int 102, .int 97, .int 110, .int 0, .int 0]) (o := some (.int r13)) (τ := σ14) (c_X7_isWord (l := l) ka0 (res := (r13, σ14)) qr13) ka0 (by decide) (ci := 7) rfl (cwV 7 hts (bz_gV wd_28_12 wd_28_13 wd_28_14 wd_1_5 wd_28_15) rfl rfl rfl (by decide +kernel) ⟨Nat.le_of_ble_eq_true rfl, Nat.le_of_ble_eq_true rfl⟩) rfl hl.1 rfl (by decide) ⟨Nat.zero_le _, Nat.zero_le _⟩ dX7_wordAt_93 rfl (fun H locs h => ?_)
          refine lv_if_eq (tgt := 103) hx hb dX7_wordAt_96 (by decide) (fun c15 => ?_) (fun c15 => ?_)
          · have hF := it_t hF c15
            refine lv_bipush (v := (-4)) hx hb dX7_wordAt_103 (by decide) ?_
            exact bz_iret C h hlocks hr hF dX7_wordAt_105
          · have hF := it_f hF c15
            refine lv_iconst (v := 4) hx hb dX7_wordAt_99 (by decide) ?_
            refine lv_goto (tgt := 105) hx hb dX7_wordAt_100 (by decide) ?_
            exact bz_iret C h hlocks hr hF dX7_wordAt_105
        · have hF := it_f hF c12
          refine lv_iconst (v := 3) hx hb dX7_wordAt_80 (by decide) ?_
          exact bz_iret C h hlocks hr hF dX7_wordAt_81
      · have hF := it_f hF c9
        refine lv_iconst (v := 2) hx hb dX7_wordAt_59 (by decide) ?_
        exact bz_iret C h hlocks hr hF dX7_wordAt_60
    · have hF := it_f hF c6
      refine lv_iconst (v := 1) hx hb dX7_wordAt_39 (by decide) ?_
      exact bz_iret C h hlocks hr hF dX7_wordAt_40
  · have hF := it_f hF c3
    refine lv_iconst (v := 0) hx hb dX7_wordAt_19 (by decide) ?_
    exact bz_iret C h hlocks hr hF dX7_wordAt_20
set_option maxHeartbeats 4000000 in
set_option maxRecDepth 100000 in
theorem c_X7_digitAt {l : Launch} {G : bz_G} {σ : bz_W} {a0 : Nat} {x1_ : Int32} {x2_ : Int32} (ka0 : bz_k G a0 = (8, 0)) {res : Int32 × bz_W} (hF : f_X7_digitAt σ a0 x1_ x2_ = some res) : bz_M l yX7_digitAt wz_X7_digitAt 1 22 G σ [.ref a0, .int x1_, .int x2_] (some (.int res.1)) res.2 := by
  refine bz_mk (cc := cX7_digitAt) (maxL := 3) (ret := (some .int)) (own := RX7) (by decide) rfl rfl (Nat.le_of_ble_eq_true rfl) ?_
  intro p e s m args below meth c ls C hlocks hr h hl
  have hx := C.1
  have hb := C.2.1
  have hts := C.2.2.2.2.1
  have hl : lv_has ls 3 [(0, .ref a0), (1, .int x1_), (2, .int x2_)] := hl
  obtain ⟨H, eH⟩ : ∃ y, y = s.heap := ⟨_, rfl⟩
  obtain ⟨locs, el⟩ : ∃ y : List Loc, y = [] := ⟨_, rfl⟩
  rw [← el, ← eH] at h ⊢
  unfold f_X7_digitAt at hF
  refine lv_iload_n hx hb dX7_digitAt_0 rfl (lv_at hl 1 rfl) ?_
  refine lv_aload_n hx hb dX7_digitAt_1 rfl (lv_at hl 0 rfl) ?_
  refine gf_7_8 C h ka0 iz_X7 (List.mem_cons_of_mem _ wd_27_14) dX7_digitAt_2 ?_
  refine lv_isub hx hb dX7_digitAt_5 ?_
  refine lv_iconst (v := 1) hx hb dX7_digitAt_6 (by decide) ?_
  refine lv_icmp_ne (tgt := 46) hx hb dX7_digitAt_7 (by decide) (fun c1 => ?_) (fun c1 => ?_)
  · have hF := it_f hF c1
    refine lv_bipush (v := (-4)) hx hb dX7_digitAt_46 (by decide) ?_
    exact bz_iret C h hlocks hr hF dX7_digitAt_48
  · have hF := it_t hF c1
    refine lv_aload_n hx hb dX7_digitAt_10 rfl (lv_at hl 0 rfl) ?_
    refine gf_7_7 C h ka0 iz_X7 (List.mem_cons_of_mem _ wd_4_16) dX7_digitAt_11 (fun k2 => ?_)
    refine lv_aload_n hx hb dX7_digitAt_14 rfl (lv_at hl 0 rfl) ?_
    refine gf_7_8 C h ka0 iz_X7 (List.mem_cons_of_mem _ wd_27_14) dX7_digitAt_15 ?_
    obtain ⟨c3, hF⟩ := ck_u hF
    refine bz_cald C h k2 c3 (kx := ((σ.1 a0 8) : Int32).toNatClampNeg) rfl dX7_digitAt_18 ?_
    refine lv_bipush (v := 48) hx hb dX7_digitAt_19 (by decide) ?_
    refine lv_bipush (v := 48) hx hb dX7_digitAt_21 (by decide) ?_
    refine lv_iload_n hx hb dX7_digitAt_23 rfl (lv_at hl 2 rfl) ?_
    refine lv_iadd hx hb dX7_digitAt_24 ?_
    obtain ⟨r4, σ5, qr4, hF⟩ := bd_u hF
    refine bz_callS (rest := []) (st1 := [.int r4]) C h (As := [.int (σ.1 (σ.2 a0 7) ((σ.1 a0 8) : Int32).toNatClampNeg), .int 48, .int (48 + x2_)]) (o := some (.int r4)) (τ := σ5) (c_X7_in (l := l)  (res := (r4, σ5)) qr4) (va_cwS 3 hts (bz_gS wd_8_5 wd_8_6 wd_1_5 wd_8_7) rfl rfl rfl (by decide +kernel) ⟨Nat.le_of_ble_eq_true rfl, Nat.le_of_ble_eq_true rfl⟩) rfl hl.1 rfl (by decide) ⟨Nat.zero_le _, Nat.zero_le _⟩ dX7_digitAt_25 rfl (fun H locs h => ?_)
    refine lv_if_eq (tgt := 46) hx hb dX7_digitAt_28 (by decide) (fun c6 => ?_) (fun c6 => ?_)
    · have hF := it_t hF c6
      refine lv_bipush (v := (-4)) hx hb dX7_digitAt_46 (by decide) ?_
      exact bz_iret C h hlocks hr hF dX7_digitAt_48
    · have hF := it_f hF c6
      refine lv_aload_n hx hb dX7_digitAt_31 rfl (lv_at hl 0 rfl) ?_
      refine gf_7_7 C h ka0 iz_X7 (List.mem_cons_of_mem _ wd_4_16) dX7_digitAt_32 (fun k7 => ?_)
      refine lv_aload_n hx hb dX7_digitAt_35 rfl (lv_at hl 0 rfl) ?_
      refine gf_7_8 C h ka0 iz_X7 (List.mem_cons_of_mem _ wd_27_14) dX7_digitAt_36 ?_
      obtain ⟨c8, hF⟩ := ck_u hF
      refine bz_cald C h k7 c8 (kx := ((σ5.1 a0 8) : Int32).toNatClampNeg) rfl dX7_digitAt_39 ?_
      refine lv_bipush (v := 48) hx hb dX7_digitAt_40 (by decide) ?_
      refine lv_isub hx hb dX7_digitAt_42 ?_
      refine lv_goto (tgt := 48) hx hb dX7_digitAt_43 (by decide) ?_
      exact bz_iret C h hlocks hr hF dX7_digitAt_48
set_option maxHeartbeats 4000000 in
set_option maxRecDepth 100000 in
theorem c_X7_takesBlank {l : Launch} {G : bz_G} {σ : bz_W} {a0 : Nat} (ka0 : bz_k G a0 = (8, 0)) {res : Int32 × bz_W} (hF : f_X7_takesBlank σ a0 = some res) : bz_M l yX7_takesBlank wz_X7_takesBlank 0 0 G σ [.ref a0] (some (.int res.1)) res.2 := by
  refine bz_mk (cc := cX7_takesBlank) (maxL := 1) (ret := (some .boolean)) (own := RX7) (by decide) rfl rfl (Nat.le_of_ble_eq_true rfl) ?_
  intro p e s m args below meth c ls C hlocks hr h hl
  have hx := C.1
  have hb := C.2.1
  have hts := C.2.2.2.2.1
  have hl : lv_has ls 1 [(0, .ref a0)] := hl
  obtain ⟨H, eH⟩ : ∃ y, y = s.heap := ⟨_, rfl⟩
  obtain ⟨locs, el⟩ : ∃ y : List Loc, y = [] := ⟨_, rfl⟩
  rw [← el, ← eH] at h ⊢
  unfold f_X7_takesBlank at hF
  refine lv_aload_n hx hb dX7_takesBlank_0 rfl (lv_at hl 0 rfl) ?_
  refine gf_7_8 C h ka0 iz_X7 (List.mem_cons_of_mem _ wd_27_14) dX7_takesBlank_1 ?_
  refine lv_aload_n hx hb dX7_takesBlank_4 rfl (lv_at hl 0 rfl) ?_
  refine gf_7_6 C h ka0 iz_X7 (List.mem_cons_of_mem _ wd_22_9) dX7_takesBlank_5 ?_
  refine lv_icmp_ge (tgt := 25) hx hb dX7_takesBlank_8 (by decide) (fun c1 => ?_) (fun c1 => ?_)
  · have hF := it_t hF c1
    refine lv_iconst (v := 0) hx hb dX7_takesBlank_25 (by decide) ?_
    exact bz_zret C h hlocks hr (by decide) hF dX7_takesBlank_26
  · have hF := it_f hF c1
    refine lv_aload_n hx hb dX7_takesBlank_11 rfl (lv_at hl 0 rfl) ?_
    refine gf_7_7 C h ka0 iz_X7 (List.mem_cons_of_mem _ wd_4_16) dX7_takesBlank_12 (fun k2 => ?_)
    refine lv_aload_n hx hb dX7_takesBlank_15 rfl (lv_at hl 0 rfl) ?_
    refine gf_7_8 C h ka0 iz_X7 (List.mem_cons_of_mem _ wd_27_14) dX7_takesBlank_16 ?_
    obtain ⟨c3, hF⟩ := ck_u hF
    refine bz_cald C h k2 c3 (kx := ((σ.1 a0 8) : Int32).toNatClampNeg) rfl dX7_takesBlank_19 ?_
    refine lv_bipush (v := 32) hx hb dX7_takesBlank_20 (by decide) ?_
    refine lv_icmp_eq (tgt := 27) hx hb dX7_takesBlank_22 (by decide) (fun c4 => ?_) (fun c4 => ?_)
    · have hF := it_t hF c4
      refine lv_aload_n hx hb dX7_takesBlank_27 rfl (lv_at hl 0 rfl) ?_
      refine lv_dup hx hb dX7_takesBlank_28 rfl ?_
      refine gf_7_8 C h ka0 iz_X7 (List.mem_cons_of_mem _ wd_27_14) dX7_takesBlank_29 ?_
      refine lv_iconst (v := 1) hx hb dX7_takesBlank_32 (by decide) ?_
      refine lv_iadd hx hb dX7_takesBlank_33 ?_
      refine pf_7_8 C h ka0 iz_X7 (List.mem_cons_of_mem _ wd_27_14) dX7_takesBlank_34 (fun H locs h => ?_)
      obtain ⟨σ5, eσ5⟩ : ∃ y : bz_W, y = bz_wi σ a0 8 ((σ.1 a0 8) + 1) := ⟨_, rfl⟩
      rw [← eσ5] at h
      have hF := lt_u hF σ5 eσ5
      refine lv_iconst (v := 1) hx hb dX7_takesBlank_37 (by decide) ?_
      exact bz_zret C h hlocks hr (by decide) hF dX7_takesBlank_38
    · have hF := it_f hF c4
      refine lv_iconst (v := 0) hx hb dX7_takesBlank_25 (by decide) ?_
      exact bz_zret C h hlocks hr (by decide) hF dX7_takesBlank_26
set_option maxHeartbeats 4000000 in
set_option maxRecDepth 100000 in
theorem c_X7_readsItem {l : Launch} {G : bz_G} {σ : bz_W} {a0 : Nat} (ka0 : bz_k G a0 = (8, 0)) {res : Int32 × bz_W} (hF : f_X7_readsItem σ a0 = some res) : bz_M l yX7_readsItem wz_X7_readsItem 2 48 G σ [.ref a0] (some (.int res.1)) res.2 := by
  refine bz_mk (cc := cX7_readsItem) (maxL := 3) (ret := (some .boolean)) (own := RX7) (by decide) rfl rfl (Nat.le_of_ble_eq_true rfl) ?_
  intro p e s m args below meth c ls C hlocks hr h hl
  have hx := C.1
  have hb := C.2.1
  have hts := C.2.2.2.2.1
  have hl : lv_has ls 3 [(0, .ref a0)] := hl
  obtain ⟨H, eH⟩ : ∃ y, y = s.heap := ⟨_, rfl⟩
  obtain ⟨locs, el⟩ : ∃ y : List Loc, y = [] := ⟨_, rfl⟩
  rw [← el, ← eH] at h ⊢
  unfold f_X7_readsItem at hF
  refine lv_iconst (v := 4) hx hb dX7_readsItem_0 (by decide) ?_
  refine lv_aload_n hx hb dX7_readsItem_1 rfl (lv_at hl 0 rfl) ?_
  refine gf_7_9 C h ka0 iz_X7 (List.mem_cons_of_mem _ wd_27_15) dX7_readsItem_2 ?_
  refine lv_imul hx hb dX7_readsItem_5 ?_
  refine lv_topi (fun x1 ex1 => ?_)
  have hF := lt_u hF x1 ex1
  refine lv_istore_n (lv' := [(1, .int x1), (0, .ref a0)]) hx hb dX7_readsItem_6 rfl hl (by decide) rfl (fun ls hl => ?_)
  refine lv_aload_n hx hb dX7_readsItem_7 rfl (lv_at hl 1 rfl) ?_
  obtain ⟨r2, σ3, qr2, hF⟩ := bd_u hF
  refine bz_callV (rest := []) (st1 := [.int r2]) C h (As := []) (o := some (.int r2)) (τ := σ3) (c_X7_end (l := l) ka0 (res := (r2, σ3)) qr2) ka0 (by decide) (ci := 7) rfl (cwV 0 hts (bz_gV wd_27_20 wd_27_21 wd_27_22 wd_1_5 wd_27_23) rfl rfl rfl (by decide +kernel) ⟨Nat.le_of_ble_eq_true rfl, Nat.le_of_ble_eq_true rfl⟩) rfl hl.1 rfl (by decide) ⟨Nat.zero_le _, Nat.zero_le _⟩ dX7_readsItem_8 rfl (fun H locs h => ?_)
  refine lv_istore_n (lv' := [(2, .int r2), (1, .int x1), (0, .ref a0)]) hx hb dX7_readsItem_11 rfl hl (by decide) rfl (fun ls hl => ?_)
  refine lv_aload_n hx hb dX7_readsItem_12 rfl (lv_at hl 2 rfl) ?_
  refine gf_7_10 C h ka0 iz_X7 (List.mem_cons_of_mem _ wd_4_17) dX7_readsItem_13 (fun k4 => ?_)
  refine lv_iload_n hx hb dX7_readsItem_16 rfl (lv_at hl 1 rfl) ?_
  refine lv_aload_n hx hb dX7_readsItem_17 rfl (lv_at hl 2 rfl) ?_
  refine lv_iload_n hx hb dX7_readsItem_18 rfl (lv_at hl 0 rfl) ?_
  refine lv_aload_n hx hb dX7_readsItem_19 rfl (lv_at hl 2 rfl) ?_
  refine gf_7_9 C h ka0 iz_X7 (List.mem_cons_of_mem _ wd_27_15) dX7_readsItem_20 ?_
  obtain ⟨j7, ej7, hF⟩ := lt_j hF
  have hj7 : ∀ (y5 : Int32) (σ6 : bz_W) (H : Heap) (locs : List Loc) (ls : Array Slot), j7 y5 σ6 = some res → bz_H G s σ6 H locs → lv_has ls 3 [(0, .ref a0), (1, .int x1), (2, .int r2)] → W p l e ({ frames := 2, cells := 0, slots := 0, locals := 48 } : Room) s m args below meth c H locs 0 0 (MQ below (bz_Qc G (some (.int res.1)) res.2) args s 0 0 (bz_A G)) (F0 m 38 ls [.int y5, .int r2, .ref a0, .int x1, .ref (σ3.2 a0 10)]) := by
      intro y5 σ6 H locs ls hF h hl
      subst ej7
      obtain ⟨r8, σ9, qr8, hF⟩ := bd_u hF
      refine bz_callV (rest := [.int x1, .ref (σ3.2 a0 10)]) (st1 := [.int r8, .int x1, .ref (σ3.2 a0 10)]) C h (As := [.int r2, .int y5]) (o := some (.int r8)) (τ := σ9) (c_X7_timeAt (l := l) ka0 (res := (r8, σ9)) qr8) ka0 (by decide) (ci := 7) rfl (cwV 2 hts (bz_gV wd_28_0 wd_28_1 wd_28_2 wd_1_5 wd_28_3) rfl rfl rfl (by decide +kernel) ⟨Nat.le_of_ble_eq_true rfl, Nat.le_of_ble_eq_true rfl⟩) rfl hl.1 rfl (Nat.le_of_ble_eq_true rfl) ⟨Nat.zero_le _, Nat.zero_le _⟩ dX7_readsItem_38 rfl (fun H locs h => ?_)
      obtain ⟨c10, hF⟩ := ck_u hF
      refine bz_iast C h k4 c10 (kx := x1.toNatClampNeg) rfl dX7_readsItem_41 (fun H locs h => ?_)
      obtain ⟨σ11, eσ11⟩ : ∃ y : bz_W, y = bz_wi σ9 (σ3.2 a0 10) x1.toNatClampNeg r8 := ⟨_, rfl⟩
      rw [← eσ11] at h
      have hF := lt_u hF σ11 eσ11
      refine lv_aload_n hx hb dX7_readsItem_42 rfl (lv_at hl 0 rfl) ?_
      refine gf_7_10 C h ka0 iz_X7 (List.mem_cons_of_mem _ wd_4_17) dX7_readsItem_43 (fun k12 => ?_)
      refine lv_iload_n hx hb dX7_readsItem_46 rfl (lv_at hl 1 rfl) ?_
      obtain ⟨c13, hF⟩ := ck_u hF
      refine bz_iald C h k12 c13 (kx := x1.toNatClampNeg) rfl dX7_readsItem_47 ?_
      refine lv_bipush (v := (-4)) hx hb dX7_readsItem_48 (by decide) ?_
      refine lv_icmp_ne (tgt := 55) hx hb dX7_readsItem_50 (by decide) (fun c14 => ?_) (fun c14 => ?_)
      · have hF := it_f hF c14
        refine lv_aload_n hx hb dX7_readsItem_55 rfl (lv_at hl 0 rfl) ?_
        refine lv_iload_n hx hb dX7_readsItem_56 rfl (lv_at hl 2 rfl) ?_
        refine pf_7_8 C h ka0 iz_X7 (List.mem_cons_of_mem _ wd_27_14) dX7_readsItem_57 (fun H locs h => ?_)
        obtain ⟨σ15, eσ15⟩ : ∃ y : bz_W, y = bz_wi σ11 a0 8 r2 := ⟨_, rfl⟩
        rw [← eσ15] at h
        have hF := lt_u hF σ15 eσ15
        refine lv_aload_n hx hb dX7_readsItem_60 rfl (lv_at hl 0 rfl) ?_
        obtain ⟨r16, σ17, qr16, hF⟩ := bd_u hF
        refine bz_callV (rest := []) (st1 := [.int r16]) C h (As := []) (o := some (.int r16)) (τ := σ17) (c_X7_takesBlank (l := l) ka0 (res := (r16, σ17)) qr16) ka0 (by decide) (ci := 7) rfl (cwV 0 hts (bz_gV wd_28_4 wd_28_5 wd_28_6 wd_1_5 wd_28_7) rfl rfl rfl (by decide +kernel) ⟨Nat.le_of_ble_eq_true rfl, Nat.le_of_ble_eq_true rfl⟩) rfl hl.1 rfl (by decide) ⟨Nat.zero_le _, Nat.zero_le _⟩ dX7_readsItem_61 rfl (fun H locs h => ?_)
        refine lv_if_ne (tgt := 69) hx hb dX7_readsItem_64 (by decide) (fun c18 => ?_) (fun c18 => ?_)
        · have hF := it_f hF c18
          refine lv_aload_n hx hb dX7_readsItem_69 rfl (lv_at hl 0 rfl) ?_
          obtain ⟨r19, σ20, qr19, hF⟩ := bd_u hF
          refine bz_callV (rest := []) (st1 := [.int r19]) C h (As := []) (o := some (.int r19)) (τ := σ20) (c_X7_end (l := l) ka0 (res := (r19, σ20)) qr19) ka0 (by decide) (ci := 7) rfl (cwV 0 hts (bz_gV wd_27_20 wd_27_21 wd_27_22 wd_1_5 wd_27_23) rfl rfl rfl (by decide +kernel) ⟨Nat.le_of_ble_eq_true rfl, Nat.le_of_ble_eq_true rfl⟩) rfl hl.1 rfl (by decide) ⟨Nat.zero_le _, Nat.zero_le _⟩ dX7_readsItem_70 rfl (fun H locs h => ?_)
          refine lv_istore_n (lv' := [(2, .int r19), (0, .ref a0), (1, .int x1)]) hx hb dX7_readsItem_73 rfl hl (by decide) rfl (fun ls hl => ?_)
          refine lv_aload_n hx hb dX7_readsItem_74 rfl (lv_at hl 1 rfl) ?_
          refine gf_7_10 C h ka0 iz_X7 (List.mem_cons_of_mem _ wd_4_17) dX7_readsItem_75 (fun k21 => ?_)
          refine lv_iload_n hx hb dX7_readsItem_78 rfl (lv_at hl 2 rfl) ?_
          refine lv_iconst (v := 1) hx hb dX7_readsItem_79 (by decide) ?_
          refine lv_iadd hx hb dX7_readsItem_80 ?_
          refine lv_aload_n hx hb dX7_readsItem_81 rfl (lv_at hl 1 rfl) ?_
          refine lv_iload_n hx hb dX7_readsItem_82 rfl (lv_at hl 0 rfl) ?_
          obtain ⟨r22, σ23, qr22, hF⟩ := bd_u hF
          refine bz_callV (rest := [.int (x1 + 1), .ref (σ20.2 a0 10)]) (st1 := [.int r22, .int (x1 + 1), .ref (σ20.2 a0 10)]) C h (As := [.int r19]) (o := some (.int r22)) (τ := σ23) (c_X7_wordAt (l := l) ka0 (res := (r22, σ23)) qr22) ka0 (by decide) (ci := 7) rfl (cwV 1 hts (bz_gV wd_28_8 wd_28_9 wd_28_10 wd_1_5 wd_28_11) rfl rfl rfl (by decide +kernel) ⟨Nat.le_of_ble_eq_true rfl, Nat.le_of_ble_eq_true rfl⟩) rfl hl.1 rfl (Nat.le_of_ble_eq_true rfl) ⟨Nat.zero_le _, Nat.zero_le _⟩ dX7_readsItem_83 rfl (fun H locs h => ?_)
          obtain ⟨c24, hF⟩ := ck_u hF
          refine bz_iast C h k21 c24 (kx := ((x1 + 1) : Int32).toNatClampNeg) rfl dX7_readsItem_86 (fun H locs h => ?_)
          obtain ⟨σ25, eσ25⟩ : ∃ y : bz_W, y = bz_wi σ23 (σ20.2 a0 10) ((x1 + 1) : Int32).toNatClampNeg r22 := ⟨_, rfl⟩
          rw [← eσ25] at h
          have hF := lt_u hF σ25 eσ25
          refine lv_aload_n hx hb dX7_readsItem_87 rfl (lv_at hl 1 rfl) ?_
          refine gf_7_10 C h ka0 iz_X7 (List.mem_cons_of_mem _ wd_4_17) dX7_readsItem_88 (fun k26 => ?_)
          refine lv_iload_n hx hb dX7_readsItem_91 rfl (lv_at hl 2 rfl) ?_
          refine lv_iconst (v := 1) hx hb dX7_readsItem_92 (by decide) ?_
          refine lv_iadd hx hb dX7_readsItem_93 ?_
          obtain ⟨c27, hF⟩ := ck_u hF
          refine bz_iald C h k26 c27 (kx := ((x1 + 1) : Int32).toNatClampNeg) rfl dX7_readsItem_94 ?_
          refine lv_bipush (v := (-4)) hx hb dX7_readsItem_95 (by decide) ?_
          refine lv_icmp_ne (tgt := 102) hx hb dX7_readsItem_97 (by decide) (fun c28 => ?_) (fun c28 => ?_)
          · have hF := it_f hF c28
            refine lv_aload_n hx hb dX7_readsItem_102 rfl (lv_at hl 1 rfl) ?_
            refine lv_iload_n hx hb dX7_readsItem_103 rfl (lv_at hl 0 rfl) ?_
            refine pf_7_8 C h ka0 iz_X7 (List.mem_cons_of_mem _ wd_27_14) dX7_readsItem_104 (fun H locs h => ?_)
            obtain ⟨σ29, eσ29⟩ : ∃ y : bz_W, y = bz_wi σ25 a0 8 r19 := ⟨_, rfl⟩
            rw [← eσ29] at h
            have hF := lt_u hF σ29 eσ29
            refine lv_aload_n hx hb dX7_readsItem_107 rfl (lv_at hl 1 rfl) ?_
            obtain ⟨r30, σ31, qr30, hF⟩ := bd_u hF
            refine bz_callV (rest := []) (st1 := [.int r30]) C h (As := []) (o := some (.int r30)) (τ := σ31) (c_X7_takesBlank (l := l) ka0 (res := (r30, σ31)) qr30) ka0 (by decide) (ci := 7) rfl (cwV 0 hts (bz_gV wd_28_4 wd_28_5 wd_28_6 wd_1_5 wd_28_7) rfl rfl rfl (by decide +kernel) ⟨Nat.le_of_ble_eq_true rfl, Nat.le_of_ble_eq_true rfl⟩) rfl hl.1 rfl (by decide) ⟨Nat.zero_le _, Nat.zero_le _⟩ dX7_readsItem_108 rfl (fun H locs h => ?_)
            refine lv_if_ne (tgt := 116) hx hb dX7_readsItem_111 (by decide) (fun c32 => ?_) (fun c32 => ?_)
            · have hF := it_f hF c32
              refine lv_aload_n hx hb dX7_readsItem_116 rfl (lv_at hl 1 rfl) ?_
              obtain ⟨r33, σ34, qr33, hF⟩ := bd_u hF
              refine bz_callV (rest := []) (st1 := [.int r33]) C h (As := []) (o := some (.int r33)) (τ := σ34) (c_X7_end (l := l) ka0 (res := (r33, σ34)) qr33) ka0 (by decide) (ci := 7) rfl (cwV 0 hts (bz_gV wd_27_20 wd_27_21 wd_27_22 wd_1_5 wd_27_23) rfl rfl rfl (by decide +kernel) ⟨Nat.le_of_ble_eq_true rfl, Nat.le_of_ble_eq_true rfl⟩) rfl hl.1 rfl (by decide) ⟨Nat.zero_le _, Nat.zero_le _⟩ dX7_readsItem_117 rfl (fun H locs h => ?_)
              refine lv_istore_n (lv' := [(2, .int r33), (0, .ref a0), (1, .int x1)]) hx hb dX7_readsItem_120 rfl hl (by decide) rfl (fun ls hl => ?_)
              refine lv_aload_n hx hb dX7_readsItem_121 rfl (lv_at hl 1 rfl) ?_
              refine gf_7_10 C h ka0 iz_X7 (List.mem_cons_of_mem _ wd_4_17) dX7_readsItem_122 (fun k35 => ?_)
              refine lv_iload_n hx hb dX7_readsItem_125 rfl (lv_at hl 2 rfl) ?_
              refine lv_iconst (v := 2) hx hb dX7_readsItem_126 (by decide) ?_
              refine lv_iadd hx hb dX7_readsItem_127 ?_
              refine lv_aload_n hx hb dX7_readsItem_128 rfl (lv_at hl 1 rfl) ?_
              refine lv_iload_n hx hb dX7_readsItem_129 rfl (lv_at hl 0 rfl) ?_
              refine lv_aload_n hx hb dX7_readsItem_130 rfl (lv_at hl 1 rfl) ?_
              refine gf_7_10 C h ka0 iz_X7 (List.mem_cons_of_mem _ wd_4_17) dX7_readsItem_131 (fun k36 => ?_)
              refine lv_iload_n hx hb dX7_readsItem_134 rfl (lv_at hl 2 rfl) ?_
              refine lv_iconst (v := 1) hx hb dX7_readsItem_135 (by decide) ?_
              refine lv_iadd hx hb dX7_readsItem_136 ?_
              obtain ⟨c37, hF⟩ := ck_u hF
              refine bz_iald C h k36 c37 (kx := ((x1 + 1) : Int32).toNatClampNeg) rfl dX7_readsItem_137 ?_
              refine lv_iconst (v := 4) hx hb dX7_readsItem_138 (by decide) ?_
              obtain ⟨j40, ej40, hF⟩ := lt_j hF
              have hj40 : ∀ (y38 : Int32) (σ39 : bz_W) (H : Heap) (locs : List Loc) (ls : Array Slot), j40 y38 σ39 = some res → bz_H G s σ39 H locs → lv_has ls 3 [(0, .ref a0), (1, .int x1), (2, .int r33)] → W p l e ({ frames := 2, cells := 0, slots := 0, locals := 48 } : Room) s m args below meth c H locs 0 0 (MQ below (bz_Qc G (some (.int res.1)) res.2) args s 0 0 (bz_A G)) (F0 m 148 ls [.int y38, .int r33, .ref a0, .int (x1 + 2), .ref (σ34.2 a0 10)]) := by
                  intro y38 σ39 H locs ls hF h hl
                  subst ej40
                  obtain ⟨r41, σ42, qr41, hF⟩ := bd_u hF
                  refine bz_callV (rest := [.int (x1 + 2), .ref (σ34.2 a0 10)]) (st1 := [.int r41, .int (x1 + 2), .ref (σ34.2 a0 10)]) C h (As := [.int r33, .int y38]) (o := some (.int r41)) (τ := σ42) (c_X7_digitAt (l := l) ka0 (res := (r41, σ42)) qr41) ka0 (by decide) (ci := 7) rfl (cwV 2 hts (bz_gV wd_28_16 wd_28_17 wd_28_18 wd_1_5 wd_28_19) rfl rfl rfl (by decide +kernel) ⟨Nat.le_of_ble_eq_true rfl, Nat.le_of_ble_eq_true rfl⟩) rfl hl.1 rfl (Nat.le_of_ble_eq_true rfl) ⟨Nat.zero_le _, Nat.zero_le _⟩ dX7_readsItem_148 rfl (fun H locs h => ?_)
                  obtain ⟨c43, hF⟩ := ck_u hF
                  refine bz_iast C h k35 c43 (kx := ((x1 + 2) : Int32).toNatClampNeg) rfl dX7_readsItem_151 (fun H locs h => ?_)
                  obtain ⟨σ44, eσ44⟩ : ∃ y : bz_W, y = bz_wi σ42 (σ34.2 a0 10) ((x1 + 2) : Int32).toNatClampNeg r41 := ⟨_, rfl⟩
                  rw [← eσ44] at h
                  have hF := lt_u hF σ44 eσ44
                  refine lv_aload_n hx hb dX7_readsItem_152 rfl (lv_at hl 0 rfl) ?_
                  refine gf_7_10 C h ka0 iz_X7 (List.mem_cons_of_mem _ wd_4_17) dX7_readsItem_153 (fun k45 => ?_)
                  refine lv_iload_n hx hb dX7_readsItem_156 rfl (lv_at hl 1 rfl) ?_
                  refine lv_iconst (v := 2) hx hb dX7_readsItem_157 (by decide) ?_
                  refine lv_iadd hx hb dX7_readsItem_158 ?_
                  obtain ⟨c46, hF⟩ := ck_u hF
                  refine bz_iald C h k45 c46 (kx := ((x1 + 2) : Int32).toNatClampNeg) rfl dX7_readsItem_159 ?_
                  refine lv_bipush (v := (-4)) hx hb dX7_readsItem_160 (by decide) ?_
                  refine lv_icmp_ne (tgt := 167) hx hb dX7_readsItem_162 (by decide) (fun c47 => ?_) (fun c47 => ?_)
                  · have hF := it_f hF c47
                    refine lv_aload_n hx hb dX7_readsItem_167 rfl (lv_at hl 0 rfl) ?_
                    refine lv_iload_n hx hb dX7_readsItem_168 rfl (lv_at hl 2 rfl) ?_
                    refine pf_7_8 C h ka0 iz_X7 (List.mem_cons_of_mem _ wd_27_14) dX7_readsItem_169 (fun H locs h => ?_)
                    obtain ⟨σ48, eσ48⟩ : ∃ y : bz_W, y = bz_wi σ44 a0 8 r33 := ⟨_, rfl⟩
                    rw [← eσ48] at h
                    have hF := lt_u hF σ48 eσ48
                    refine lv_aload_n hx hb dX7_readsItem_172 rfl (lv_at hl 0 rfl) ?_
                    refine gf_7_10 C h ka0 iz_X7 (List.mem_cons_of_mem _ wd_4_17) dX7_readsItem_173 (fun k49 => ?_)
                    refine lv_iload_n hx hb dX7_readsItem_176 rfl (lv_at hl 1 rfl) ?_
                    refine lv_iconst (v := 3) hx hb dX7_readsItem_177 (by decide) ?_
                    refine lv_iadd hx hb dX7_readsItem_178 ?_
                    refine lv_bipush (v := (-4)) hx hb dX7_readsItem_179 (by decide) ?_
                    obtain ⟨c50, hF⟩ := ck_u hF
                    refine bz_iast C h k49 c50 (kx := ((x1 + 3) : Int32).toNatClampNeg) rfl dX7_readsItem_181 (fun H locs h => ?_)
                    obtain ⟨σ51, eσ51⟩ : ∃ y : bz_W, y = bz_wi σ48 (σ48.2 a0 10) ((x1 + 3) : Int32).toNatClampNeg (-4) := ⟨_, rfl⟩
                    rw [← eσ51] at h
                    have hF := lt_u hF σ51 eσ51
                    refine lv_aload_n hx hb dX7_readsItem_182 rfl (lv_at hl 0 rfl) ?_
                    refine gf_7_10 C h ka0 iz_X7 (List.mem_cons_of_mem _ wd_4_17) dX7_readsItem_183 (fun k52 => ?_)
                    refine lv_iload_n hx hb dX7_readsItem_186 rfl (lv_at hl 1 rfl) ?_
                    refine lv_iconst (v := 1) hx hb dX7_readsItem_187 (by decide) ?_
                    refine lv_iadd hx hb dX7_readsItem_188 ?_
                    obtain ⟨c53, hF⟩ := ck_u hF
                    refine bz_iald C h k52 c53 (kx := ((x1 + 1) : Int32).toNatClampNeg) rfl dX7_readsItem_189 ?_
                    refine lv_iconst (v := 2) hx hb dX7_readsItem_190 (by decide) ?_
                    obtain ⟨j55, ej55, hF⟩ := lt_j hF
                    have hj55 : ∀ (σ54 : bz_W) (H : Heap) (locs : List Loc) (ls : Array Slot), j55 σ54 = some res → bz_H G s σ54 H locs → lv_has ls 3 [(0, .ref a0)] → W p l e ({ frames := 2, cells := 0, slots := 0, locals := 48 } : Room) s m args below meth c H locs 0 0 (MQ below (bz_Qc G (some (.int res.1)) res.2) args s 0 0 (bz_A G)) (F0 m 243 ls []) := by
                        intro σ54 H locs ls hF h hl
                        subst ej55
                        refine lv_aload_n hx hb dX7_readsItem_243 rfl (lv_at hl 0 rfl) ?_
                        refine lv_dup hx hb dX7_readsItem_244 rfl ?_
                        refine gf_7_9 C h ka0 iz_X7 (List.mem_cons_of_mem _ wd_27_15) dX7_readsItem_245 ?_
                        refine lv_iconst (v := 1) hx hb dX7_readsItem_248 (by decide) ?_
                        refine lv_iadd hx hb dX7_readsItem_249 ?_
                        refine pf_7_9 C h ka0 iz_X7 (List.mem_cons_of_mem _ wd_27_15) dX7_readsItem_250 (fun H locs h => ?_)
                        obtain ⟨σ56, eσ56⟩ : ∃ y : bz_W, y = bz_wi σ54 a0 9 ((σ54.1 a0 9) + 1) := ⟨_, rfl⟩
                        rw [← eσ56] at h
                        have hF := lt_u hF σ56 eσ56
                        refine lv_aload_n hx hb dX7_readsItem_253 rfl (lv_at hl 0 rfl) ?_
                        refine gf_7_8 C h ka0 iz_X7 (List.mem_cons_of_mem _ wd_27_14) dX7_readsItem_254 ?_
                        refine lv_aload_n hx hb dX7_readsItem_257 rfl (lv_at hl 0 rfl) ?_
                        refine gf_7_6 C h ka0 iz_X7 (List.mem_cons_of_mem _ wd_22_9) dX7_readsItem_258 ?_
                        refine lv_icmp_eq (tgt := 278) hx hb dX7_readsItem_261 (by decide) (fun c57 => ?_) (fun c57 => ?_)
                        · have hF := it_t hF c57
                          refine lv_iconst (v := 1) hx hb dX7_readsItem_278 (by decide) ?_
                          refine lv_goto (tgt := 283) hx hb dX7_readsItem_279 (by decide) ?_
                          exact bz_zret C h hlocks hr (by decide) hF dX7_readsItem_283
                        · have hF := it_f hF c57
                          refine lv_aload_n hx hb dX7_readsItem_264 rfl (lv_at hl 0 rfl) ?_
                          refine gf_7_7 C h ka0 iz_X7 (List.mem_cons_of_mem _ wd_4_16) dX7_readsItem_265 (fun k58 => ?_)
                          refine lv_aload_n hx hb dX7_readsItem_268 rfl (lv_at hl 0 rfl) ?_
                          refine gf_7_8 C h ka0 iz_X7 (List.mem_cons_of_mem _ wd_27_14) dX7_readsItem_269 ?_
                          obtain ⟨c59, hF⟩ := ck_u hF
                          refine bz_cald C h k58 c59 (kx := ((σ56.1 a0 8) : Int32).toNatClampNeg) rfl dX7_readsItem_272 ?_
                          refine lv_bipush (v := 59) hx hb dX7_readsItem_273 (by decide) ?_
                          refine lv_icmp_ne (tgt := 282) hx hb dX7_readsItem_275 (by decide) (fun c60 => ?_) (fun c60 => ?_)
                          · have hF := it_f hF c60
                            refine lv_iconst (v := 0) hx hb dX7_readsItem_282 (by decide) ?_
                            exact bz_zret C h hlocks hr (by decide) hF dX7_readsItem_283
                          · have hF := it_t hF c60
                            refine lv_iconst (v := 1) hx hb dX7_readsItem_278 (by decide) ?_
                            refine lv_goto (tgt := 283) hx hb dX7_readsItem_279 (by decide) ?_
                            exact bz_zret C h hlocks hr (by decide) hF dX7_readsItem_283
                    refine lv_icmp_ne (tgt := 243) hx hb dX7_readsItem_191 (by decide) (fun c61 => ?_) (fun c61 => ?_)
                    · have hF := it_f hF c61
                      exact hj55 _ H locs ls hF h (lv_sub hl [0] rfl)
                    · have hF := it_t hF c61
                      refine lv_aload_n hx hb dX7_readsItem_194 rfl (lv_at hl 0 rfl) ?_
                      obtain ⟨r62, σ63, qr62, hF⟩ := bd_u hF
                      refine bz_callV (rest := []) (st1 := [.int r62]) C h (As := []) (o := some (.int r62)) (τ := σ63) (c_X7_takesBlank (l := l) ka0 (res := (r62, σ63)) qr62) ka0 (by decide) (ci := 7) rfl (cwV 0 hts (bz_gV wd_28_4 wd_28_5 wd_28_6 wd_1_5 wd_28_7) rfl rfl rfl (by decide +kernel) ⟨Nat.le_of_ble_eq_true rfl, Nat.le_of_ble_eq_true rfl⟩) rfl hl.1 rfl (by decide) ⟨Nat.zero_le _, Nat.zero_le _⟩ dX7_readsItem_195 rfl (fun H locs h => ?_)
                      refine lv_if_ne (tgt := 203) hx hb dX7_readsItem_198 (by decide) (fun c64 => ?_) (fun c64 => ?_)
                      · have hF := it_f hF c64
                        refine lv_aload_n hx hb dX7_readsItem_203 rfl (lv_at hl 0 rfl) ?_
                        obtain ⟨r65, σ66, qr65, hF⟩ := bd_u hF
                        refine bz_callV (rest := []) (st1 := [.int r65]) C h (As := []) (o := some (.int r65)) (τ := σ66) (c_X7_end (l := l) ka0 (res := (r65, σ66)) qr65) ka0 (by decide) (ci := 7) rfl (cwV 0 hts (bz_gV wd_27_20 wd_27_21 wd_27_22 wd_1_5 wd_27_23) rfl rfl rfl (by decide +kernel) ⟨Nat.le_of_ble_eq_true rfl, Nat.le_of_ble_eq_true rfl⟩) rfl hl.1 rfl (by decide) ⟨Nat.zero_le _, Nat.zero_le _⟩ dX7_readsItem_204 rfl (fun H locs h => ?_)
                        refine lv_istore_n (lv' := [(2, .int r65), (0, .ref a0), (1, .int x1)]) hx hb dX7_readsItem_207 rfl hl (by decide) rfl (fun ls hl => ?_)
                        refine lv_aload_n hx hb dX7_readsItem_208 rfl (lv_at hl 1 rfl) ?_
                        refine gf_7_10 C h ka0 iz_X7 (List.mem_cons_of_mem _ wd_4_17) dX7_readsItem_209 (fun k67 => ?_)
                        refine lv_iload_n hx hb dX7_readsItem_212 rfl (lv_at hl 2 rfl) ?_
                        refine lv_iconst (v := 3) hx hb dX7_readsItem_213 (by decide) ?_
                        refine lv_iadd hx hb dX7_readsItem_214 ?_
                        refine lv_aload_n hx hb dX7_readsItem_215 rfl (lv_at hl 1 rfl) ?_
                        refine lv_iload_n hx hb dX7_readsItem_216 rfl (lv_at hl 0 rfl) ?_
                        refine lv_bipush (v := 7) hx hb dX7_readsItem_217 (by decide) ?_
                        obtain ⟨r68, σ69, qr68, hF⟩ := bd_u hF
                        refine bz_callV (rest := [.int (x1 + 3), .ref (σ66.2 a0 10)]) (st1 := [.int r68, .int (x1 + 3), .ref (σ66.2 a0 10)]) C h (As := [.int r65, .int 7]) (o := some (.int r68)) (τ := σ69) (c_X7_digitAt (l := l) ka0 (res := (r68, σ69)) qr68) ka0 (by decide) (ci := 7) rfl (cwV 2 hts (bz_gV wd_28_16 wd_28_17 wd_28_18 wd_1_5 wd_28_19) rfl rfl rfl (by decide +kernel) ⟨Nat.le_of_ble_eq_true rfl, Nat.le_of_ble_eq_true rfl⟩) rfl hl.1 rfl (Nat.le_of_ble_eq_true rfl) ⟨Nat.zero_le _, Nat.zero_le _⟩ dX7_readsItem_219 rfl (fun H locs h => ?_)
                        obtain ⟨c70, hF⟩ := ck_u hF
                        refine bz_iast C h k67 c70 (kx := ((x1 + 3) : Int32).toNatClampNeg) rfl dX7_readsItem_222 (fun H locs h => ?_)
                        obtain ⟨σ71, eσ71⟩ : ∃ y : bz_W, y = bz_wi σ69 (σ66.2 a0 10) ((x1 + 3) : Int32).toNatClampNeg r68 := ⟨_, rfl⟩
                        rw [← eσ71] at h
                        have hF := lt_u hF σ71 eσ71
                        refine lv_aload_n hx hb dX7_readsItem_223 rfl (lv_at hl 1 rfl) ?_
                        refine gf_7_10 C h ka0 iz_X7 (List.mem_cons_of_mem _ wd_4_17) dX7_readsItem_224 (fun k72 => ?_)
                        refine lv_iload_n hx hb dX7_readsItem_227 rfl (lv_at hl 2 rfl) ?_
                        refine lv_iconst (v := 3) hx hb dX7_readsItem_228 (by decide) ?_
                        refine lv_iadd hx hb dX7_readsItem_229 ?_
                        obtain ⟨c73, hF⟩ := ck_u hF
                        refine bz_iald C h k72 c73 (kx := ((x1 + 3) : Int32).toNatClampNeg) rfl dX7_readsItem_230 ?_
                        refine lv_bipush (v := (-4)) hx hb dX7_readsItem_231 (by decide) ?_
                        refine lv_icmp_ne (tgt := 238) hx hb dX7_readsItem_233 (by decide) (fun c74 => ?_) (fun c74 => ?_)
                        · have hF := it_f hF c74
                          refine lv_aload_n hx hb dX7_readsItem_238 rfl (lv_at hl 1 rfl) ?_
                          refine lv_iload_n hx hb dX7_readsItem_239 rfl (lv_at hl 0 rfl) ?_
                          refine pf_7_8 C h ka0 iz_X7 (List.mem_cons_of_mem _ wd_27_14) dX7_readsItem_240 (fun H locs h => ?_)
                          obtain ⟨σ75, eσ75⟩ : ∃ y : bz_W, y = bz_wi σ71 a0 8 r65 := ⟨_, rfl⟩
                          rw [← eσ75] at h
                          have hF := lt_u hF σ75 eσ75
                          exact hj55 _ H locs ls hF h (lv_sub hl [1] rfl)
                        · have hF := it_t hF c74
                          refine lv_iconst (v := 0) hx hb dX7_readsItem_236 (by decide) ?_
                          exact bz_zret C h hlocks hr (by decide) hF dX7_readsItem_237
                      · have hF := it_t hF c64
                        refine lv_iconst (v := 0) hx hb dX7_readsItem_201 (by decide) ?_
                        exact bz_zret C h hlocks hr (by decide) hF dX7_readsItem_202
                  · have hF := it_t hF c47
                    refine lv_iconst (v := 0) hx hb dX7_readsItem_165 (by decide) ?_
                    exact bz_zret C h hlocks hr (by decide) hF dX7_readsItem_166
              refine lv_icmp_ne (tgt := 146) hx hb dX7_readsItem_139 (by decide) (fun c76 => ?_) (fun c76 => ?_)
              · have hF := it_f hF c76
                refine lv_bipush (v := 7) hx hb dX7_readsItem_146 (by decide) ?_
                exact hj40 _ _ H locs ls hF h (lv_sub hl [1, 2, 0] rfl)
              · have hF := it_t hF c76
                refine lv_iconst (v := 1) hx hb dX7_readsItem_142 (by decide) ?_
                refine lv_goto (tgt := 148) hx hb dX7_readsItem_143 (by decide) ?_
                exact hj40 _ _ H locs ls hF h (lv_sub hl [1, 2, 0] rfl)
            · have hF := it_t hF c32
              refine lv_iconst (v := 0) hx hb dX7_readsItem_114 (by decide) ?_
              exact bz_zret C h hlocks hr (by decide) hF dX7_readsItem_115
          · have hF := it_t hF c28
            refine lv_iconst (v := 0) hx hb dX7_readsItem_100 (by decide) ?_
            exact bz_zret C h hlocks hr (by decide) hF dX7_readsItem_101
        · have hF := it_t hF c18
          refine lv_iconst (v := 0) hx hb dX7_readsItem_67 (by decide) ?_
          exact bz_zret C h hlocks hr (by decide) hF dX7_readsItem_68
      · have hF := it_t hF c14
        refine lv_iconst (v := 0) hx hb dX7_readsItem_53 (by decide) ?_
        exact bz_zret C h hlocks hr (by decide) hF dX7_readsItem_54
  refine lv_if_ne (tgt := 30) hx hb dX7_readsItem_23 (by decide) (fun c77 => ?_) (fun c77 => ?_)
  · have hF := it_f hF c77
    refine lv_aload_n hx hb dX7_readsItem_30 rfl (lv_at hl 2 rfl) ?_
    refine gf_7_10 C h ka0 iz_X7 (List.mem_cons_of_mem _ wd_4_17) dX7_readsItem_31 (fun k78 => ?_)
    refine lv_iload_n hx hb dX7_readsItem_34 rfl (lv_at hl 1 rfl) ?_
    refine lv_iconst (v := 4) hx hb dX7_readsItem_35 (by decide) ?_
    refine lv_isub hx hb dX7_readsItem_36 ?_
    obtain ⟨c79, hF⟩ := ck_u hF
    refine bz_iald C h k78 c79 (kx := ((x1 - 4) : Int32).toNatClampNeg) rfl dX7_readsItem_37 ?_
    exact hj7 _ _ H locs ls hF h (lv_sub hl [2, 1, 0] rfl)
  · have hF := it_t hF c77
    refine lv_iconst (v := 0) hx hb dX7_readsItem_26 (by decide) ?_
    refine lv_goto (tgt := 38) hx hb dX7_readsItem_27 (by decide) ?_
    exact hj7 _ _ H locs ls hF h (lv_sub hl [2, 1, 0] rfl)
set_option maxHeartbeats 4000000 in
set_option maxRecDepth 100000 in
theorem L_X7_readTimetable_L12 {p : Program} {l : Launch} {e : Env} {s : State} {m : MethodId} {args : Array Value} {below : List Frame} {meth : Method} {c : Code} {G : bz_G} (C : bz_C p s m c args cX7_readTimetable 3 RX7 wz_X7_readTimetable G) (hlocks : meth.locks = false) (hr : meth.sig.returnType = (some .int)) {a0 : Nat} (ka0 : bz_k G a0 = (8, 0)) {k : bz_W → Option (Int32 × bz_W)} {res : Int32 × bz_W} : ∀ (n : Nat) (v1 : Int32) (σ : bz_W) (H : Heap) (locs : List Loc) (ls : Array Slot), f_X7_readTimetable_L12 a0 k n v1 σ = some res → bz_H G s σ H locs → lv_has ls 3 [(0, .ref a0), (1, .int v1)] → (∀ (σ : bz_W) (H : Heap) (locs : List Loc) (ls : Array Slot), k σ = some res → bz_H G s σ H locs → lv_has ls 3 [(0, .ref a0)] → W p l e ({ frames := 3, cells := 0, slots := 0, locals := 70 } : Room) s m args below meth c H locs 0 0 (MQ below (bz_Qc G (some (.int res.1)) res.2) args s 0 0 (bz_A G)) (F0 m 69 ls [])) → W p l e ({ frames := 3, cells := 0, slots := 0, locals := 70 } : Room) s m args below meth c H locs 0 0 (MQ below (bz_Qc G (some (.int res.1)) res.2) args s 0 0 (bz_A G)) (F0 m 12 ls []) := by
  have hx := C.1
  have hb := C.2.1
  have hts := C.2.2.2.2.1
  intro n
  induction n with
  | zero =>
    intro v1 σ H locs ls hF
    exact absurd hF (by simp [f_X7_readTimetable_L12])
  | succ n ih =>
    intro v1 σ H locs ls hF h hl hk
    rw [f_X7_readTimetable_L12] at hF
    refine lv_iload_n hx hb dX7_readTimetable_12 rfl (lv_at hl 1 rfl) ?_
    refine lv_if_eq (tgt := 69) hx hb dX7_readTimetable_13 (by decide) (fun c3 => ?_) (fun c3 => ?_)
    · have hF := it_t hF c3
      exact hk _ H locs ls hF h (lv_sub hl [0] rfl)
    · have hF := it_f hF c3
      refine lv_aload_n hx hb dX7_readTimetable_16 rfl (lv_at hl 0 rfl) ?_
      obtain ⟨r4, σ5, qr4, hF⟩ := bd_u hF
      refine bz_callV (rest := []) (st1 := [.int r4]) C h (As := []) (o := some (.int r4)) (τ := σ5) (c_X7_readsItem (l := l) ka0 (res := (r4, σ5)) qr4) ka0 (by decide) (ci := 7) rfl (cwV 0 hts (bz_gV wd_27_16 wd_27_17 wd_27_18 wd_1_5 wd_27_19) rfl rfl rfl (by decide +kernel) ⟨Nat.le_of_ble_eq_true rfl, Nat.le_of_ble_eq_true rfl⟩) rfl hl.1 rfl (by decide) ⟨Nat.zero_le _, Nat.zero_le _⟩ dX7_readTimetable_17 rfl (fun H locs h => ?_)
      refine lv_if_ne (tgt := 31) hx hb dX7_readTimetable_20 (by decide) (fun c6 => ?_) (fun c6 => ?_)
      · have hF := it_f hF c6
        refine lv_aload_n hx hb dX7_readTimetable_31 rfl (lv_at hl 0 rfl) ?_
        refine gf_7_8 C h ka0 iz_X7 (List.mem_cons_of_mem _ wd_27_14) dX7_readTimetable_32 ?_
        refine lv_aload_n hx hb dX7_readTimetable_35 rfl (lv_at hl 0 rfl) ?_
        refine gf_7_6 C h ka0 iz_X7 (List.mem_cons_of_mem _ wd_22_9) dX7_readTimetable_36 ?_
        obtain ⟨j9, ej9, hF⟩ := lt_j hF
        have hj9 : ∀ (y7 : Int32) (σ8 : bz_W) (H : Heap) (locs : List Loc) (ls : Array Slot), j9 y7 σ8 = some res → bz_H G s σ8 H locs → lv_has ls 3 [(0, .ref a0)] → W p l e ({ frames := 3, cells := 0, slots := 0, locals := 70 } : Room) s m args below meth c H locs 0 0 (MQ below (bz_Qc G (some (.int res.1)) res.2) args s 0 0 (bz_A G)) (F0 m 47 ls [.int y7]) := by
            intro y7 σ8 H locs ls hF h hl
            subst ej9
            refine lv_istore_n (lv' := [(1, .int y7), (0, .ref a0)]) hx hb dX7_readTimetable_47 rfl hl (by decide) rfl (fun ls hl => ?_)
            refine lv_aload_n hx hb dX7_readTimetable_48 rfl (lv_at hl 1 rfl) ?_
            refine lv_dup hx hb dX7_readTimetable_49 rfl ?_
            refine gf_7_8 C h ka0 iz_X7 (List.mem_cons_of_mem _ wd_27_14) dX7_readTimetable_50 ?_
            refine lv_iload_n hx hb dX7_readTimetable_53 rfl (lv_at hl 0 rfl) ?_
            obtain ⟨j12, ej12, hF⟩ := lt_j hF
            have hj12 : ∀ (y10 : Int32) (σ11 : bz_W) (H : Heap) (locs : List Loc) (ls : Array Slot), j12 y10 σ11 = some res → bz_H G s σ11 H locs → lv_has ls 3 [(0, .ref a0), (1, .int y7)] → W p l e ({ frames := 3, cells := 0, slots := 0, locals := 70 } : Room) s m args below meth c H locs 0 0 (MQ below (bz_Qc G (some (.int res.1)) res.2) args s 0 0 (bz_A G)) (F0 m 62 ls [.int y10, .int (σ8.1 a0 8), .ref a0]) := by
                intro y10 σ11 H locs ls hF h hl
                subst ej12
                refine lv_iadd hx hb dX7_readTimetable_62 ?_
                refine pf_7_8 C h ka0 iz_X7 (List.mem_cons_of_mem _ wd_27_14) dX7_readTimetable_63 (fun H locs h => ?_)
                obtain ⟨σ13, eσ13⟩ : ∃ y : bz_W, y = bz_wi σ11 a0 8 ((σ8.1 a0 8) + y10) := ⟨_, rfl⟩
                rw [← eσ13] at h
                have hF := lt_u hF σ13 eσ13
                refine lv_goto (tgt := 12) hx hb dX7_readTimetable_66 (by decide) ?_
                exact ih _ _ H locs ls hF h (lv_sub hl [0, 1] rfl) hk
            refine lv_if_eq (tgt := 61) hx hb dX7_readTimetable_54 (by decide) (fun c14 => ?_) (fun c14 => ?_)
            · have hF := it_t hF c14
              refine lv_iconst (v := 0) hx hb dX7_readTimetable_61 (by decide) ?_
              exact hj12 _ _ H locs ls hF h (lv_sub hl [1, 0] rfl)
            · have hF := it_f hF c14
              refine lv_iconst (v := 1) hx hb dX7_readTimetable_57 (by decide) ?_
              refine lv_goto (tgt := 62) hx hb dX7_readTimetable_58 (by decide) ?_
              exact hj12 _ _ H locs ls hF h (lv_sub hl [1, 0] rfl)
        refine lv_icmp_ge (tgt := 46) hx hb dX7_readTimetable_39 (by decide) (fun c15 => ?_) (fun c15 => ?_)
        · have hF := it_t hF c15
          refine lv_iconst (v := 0) hx hb dX7_readTimetable_46 (by decide) ?_
          exact hj9 _ _ H locs ls hF h (lv_sub hl [0] rfl)
        · have hF := it_f hF c15
          refine lv_iconst (v := 1) hx hb dX7_readTimetable_42 (by decide) ?_
          refine lv_goto (tgt := 47) hx hb dX7_readTimetable_43 (by decide) ?_
          exact hj9 _ _ H locs ls hF h (lv_sub hl [0] rfl)
      · have hF := it_t hF c6
        refine lv_bipush (v := (-100)) hx hb dX7_readTimetable_23 (by decide) ?_
        refine lv_aload_n hx hb dX7_readTimetable_25 rfl (lv_at hl 0 rfl) ?_
        refine gf_7_8 C h ka0 iz_X7 (List.mem_cons_of_mem _ wd_27_14) dX7_readTimetable_26 ?_
        refine lv_isub hx hb dX7_readTimetable_29 ?_
        exact bz_iret C h hlocks hr hF dX7_readTimetable_30
set_option maxHeartbeats 4000000 in
set_option maxRecDepth 100000 in
theorem L_X7_readTimetable_L85 {p : Program} {l : Launch} {e : Env} {s : State} {m : MethodId} {args : Array Value} {below : List Frame} {meth : Method} {c : Code} {G : bz_G} (C : bz_C p s m c args cX7_readTimetable 3 RX7 wz_X7_readTimetable G) (hlocks : meth.locks = false) (hr : meth.sig.returnType = (some .int)) {a0 : Nat} (ka0 : bz_k G a0 = (8, 0)) {k : bz_W → Option (Int32 × bz_W)} {res : Int32 × bz_W} : ∀ (n : Nat) (v2 : Int32) (σ : bz_W) (H : Heap) (locs : List Loc) (ls : Array Slot), f_X7_readTimetable_L85 a0 k n v2 σ = some res → bz_H G s σ H locs → lv_has ls 3 [(0, .ref a0), (2, .int v2)] → (∀ (σ : bz_W) (H : Heap) (locs : List Loc) (ls : Array Slot), k σ = some res → bz_H G s σ H locs → lv_has ls 3 [(0, .ref a0)] → W p l e ({ frames := 3, cells := 0, slots := 0, locals := 70 } : Room) s m args below meth c H locs 0 0 (MQ below (bz_Qc G (some (.int res.1)) res.2) args s 0 0 (bz_A G)) (F0 m 134 ls [])) → W p l e ({ frames := 3, cells := 0, slots := 0, locals := 70 } : Room) s m args below meth c H locs 0 0 (MQ below (bz_Qc G (some (.int res.1)) res.2) args s 0 0 (bz_A G)) (F0 m 85 ls []) := by
  have hx := C.1
  have hb := C.2.1
  have hts := C.2.2.2.2.1
  intro n
  induction n with
  | zero =>
    intro v2 σ H locs ls hF
    exact absurd hF (by simp [f_X7_readTimetable_L85])
  | succ n ih =>
    intro v2 σ H locs ls hF h hl hk
    rw [f_X7_readTimetable_L85] at hF
    refine lv_iload_n hx hb dX7_readTimetable_85 rfl (lv_at hl 1 rfl) ?_
    refine lv_iconst (v := 4) hx hb dX7_readTimetable_86 (by decide) ?_
    refine lv_aload_n hx hb dX7_readTimetable_87 rfl (lv_at hl 0 rfl) ?_
    refine gf_7_9 C h ka0 iz_X7 (List.mem_cons_of_mem _ wd_27_15) dX7_readTimetable_88 ?_
    refine lv_imul hx hb dX7_readTimetable_91 ?_
    refine lv_icmp_ge (tgt := 134) hx hb dX7_readTimetable_92 (by decide) (fun c21 => ?_) (fun c21 => ?_)
    · have hF := it_t hF c21
      exact hk _ H locs ls hF h (lv_sub hl [0] rfl)
    · have hF := it_f hF c21
      refine lv_aload_n hx hb dX7_readTimetable_95 rfl (lv_at hl 0 rfl) ?_
      refine gf_7_0 C h ka0 iz_X7 (List.mem_cons_of_mem _ wd_4_13) dX7_readTimetable_96 (fun k22 => ?_)
      refine lv_sipush (v := 168) hx hb dX7_readTimetable_99 (by decide) ?_
      refine lv_iload_n hx hb dX7_readTimetable_102 rfl (lv_at hl 1 rfl) ?_
      refine lv_iadd hx hb dX7_readTimetable_103 ?_
      refine lv_aload_n hx hb dX7_readTimetable_104 rfl (lv_at hl 0 rfl) ?_
      refine gf_7_10 C h ka0 iz_X7 (List.mem_cons_of_mem _ wd_4_17) dX7_readTimetable_105 (fun k23 => ?_)
      refine lv_iload_n hx hb dX7_readTimetable_108 rfl (lv_at hl 1 rfl) ?_
      obtain ⟨c24, hF⟩ := ck_u hF
      refine bz_iald C h k23 c24 (kx := v2.toNatClampNeg) rfl dX7_readTimetable_109 ?_
      refine lv_iload_n hx hb dX7_readTimetable_110 rfl (lv_at hl 1 rfl) ?_
      refine lv_iconst (v := 4) hx hb dX7_readTimetable_111 (by decide) ?_
      refine lv_irem hx hb dX7_readTimetable_112 (by decide) ?_
      obtain ⟨j27, ej27, hF⟩ := lt_j hF
      have hj27 : ∀ (y25 : Int32) (σ26 : bz_W) (H : Heap) (locs : List Loc) (ls : Array Slot), j27 y25 σ26 = some res → bz_H G s σ26 H locs → lv_has ls 3 [(0, .ref a0), (2, .int v2)] → W p l e ({ frames := 3, cells := 0, slots := 0, locals := 70 } : Room) s m args below meth c H locs 0 0 (MQ below (bz_Qc G (some (.int res.1)) res.2) args s 0 0 (bz_A G)) (F0 m 126 ls [.int y25, .int (σ.1 (σ.2 a0 10) v2.toNatClampNeg), .int (168 + v2), .ref (σ.2 a0 0)]) := by
          intro y25 σ26 H locs ls hF h hl
          subst ej27
          refine lv_iadd hx hb dX7_readTimetable_126 ?_
          obtain ⟨c28, hF⟩ := ck_u hF
          refine bz_iast C h k22 c28 (kx := ((168 + v2) : Int32).toNatClampNeg) rfl dX7_readTimetable_127 (fun H locs h => ?_)
          obtain ⟨σ29, eσ29⟩ : ∃ y : bz_W, y = bz_wi σ26 (σ.2 a0 0) ((168 + v2) : Int32).toNatClampNeg ((σ.1 (σ.2 a0 10) v2.toNatClampNeg) + y25) := ⟨_, rfl⟩
          rw [← eσ29] at h
          have hF := lt_u hF σ29 eσ29
          obtain ⟨x30, ex30⟩ : ∃ y : Int32, y = v2 + 1 := ⟨_, rfl⟩
          have hF := lt_u hF x30 ex30
          refine lv_iinc (v := x30) (lv' := [(2, .int x30), (0, .ref a0)]) hx hb dX7_readTimetable_128 hl (k := 1) rfl (by rw [ex30]; rfl) (by decide) rfl (fun ls hl => ?_)
          refine lv_goto (tgt := 85) hx hb dX7_readTimetable_131 (by decide) ?_
          exact ih _ _ H locs ls hF h (lv_sub hl [1, 0] rfl) hk
      refine lv_if_ne (tgt := 125) hx hb dX7_readTimetable_113 (by decide) (fun c31 => ?_) (fun c31 => ?_)
      · have hF := it_f hF c31
        refine lv_iconst (v := 0) hx hb dX7_readTimetable_125 (by decide) ?_
        exact hj27 _ _ H locs ls hF h (lv_sub hl [0, 1] rfl)
      · have hF := it_t hF c31
        refine lv_aload_n hx hb dX7_readTimetable_116 rfl (lv_at hl 0 rfl) ?_
        refine gf_7_0 C h ka0 iz_X7 (List.mem_cons_of_mem _ wd_4_13) dX7_readTimetable_117 (fun k32 => ?_)
        refine lv_iconst (v := 1) hx hb dX7_readTimetable_120 (by decide) ?_
        refine bz_iald C h k32 (by decide) (kx := 1) (bz_cl 1 (by decide)) dX7_readTimetable_121 ?_
        refine lv_goto (tgt := 126) hx hb dX7_readTimetable_122 (by decide) ?_
        exact hj27 _ _ H locs ls hF h (lv_sub hl [0, 1] rfl)
