set_option maxHeartbeats 4000000 in
set_option maxRecDepth 100000 in
theorem c_X7_readTimetable {l : Launch} {G : bz_G} {σ : bz_W} {a0 : Nat} (ka0 : bz_k G a0 = (8, 0)) {res : Int32 × bz_W} (hF : f_X7_readTimetable σ a0 = some res) : bz_M l yX7_readTimetable wz_X7_readTimetable 3 70 G σ [.ref a0] (some (.int res.1)) res.2 := by
  refine bz_mk (cc := cX7_readTimetable) (maxL := 3) (ret := (some .int)) (own := RX7) (by decide) rfl rfl (Nat.le_of_ble_eq_true rfl) ?_
  intro p e s m args below meth c ls C hlocks hr h hl
  have hx := C.1
  have hb := C.2.1
  have hts := C.2.2.2.2.1
  have hl : lv_has ls 3 [(0, .ref a0)] := hl
  obtain ⟨H, eH⟩ : ∃ y, y = s.heap := ⟨_, rfl⟩
  obtain ⟨locs, el⟩ : ∃ y : List Loc, y = [] := ⟨_, rfl⟩
  rw [← el, ← eH] at h ⊢
  unfold f_X7_readTimetable at hF
  refine lv_aload_n hx hb dX7_readTimetable_0 rfl (lv_at hl 0 rfl) ?_
  refine lv_iconst (v := 0) hx hb dX7_readTimetable_1 (by decide) ?_
  refine pf_7_8 C h ka0 iz_X7 (List.mem_cons_of_mem _ wd_27_14) dX7_readTimetable_2 (fun H locs h => ?_)
  obtain ⟨σ1, eσ1⟩ : ∃ y : bz_W, y = bz_wi σ a0 8 0 := ⟨_, rfl⟩
  rw [← eσ1] at h
  have hF := lt_u hF σ1 eσ1
  refine lv_aload_n hx hb dX7_readTimetable_5 rfl (lv_at hl 0 rfl) ?_
  refine lv_iconst (v := 0) hx hb dX7_readTimetable_6 (by decide) ?_
  refine pf_7_9 C h ka0 iz_X7 (List.mem_cons_of_mem _ wd_27_15) dX7_readTimetable_7 (fun H locs h => ?_)
  obtain ⟨σ2, eσ2⟩ : ∃ y : bz_W, y = bz_wi σ1 a0 9 0 := ⟨_, rfl⟩
  rw [← eσ2] at h
  have hF := lt_u hF σ2 eσ2
  refine lv_iconst (v := 1) hx hb dX7_readTimetable_10 (by decide) ?_
  refine lv_istore_n (lv' := [(1, .int 1), (0, .ref a0)]) hx hb dX7_readTimetable_11 rfl hl (by decide) rfl (fun ls hl => ?_)
  refine L_X7_readTimetable_L12 C hlocks hr ka0 _ _ _ H locs ls hF h (lv_sub hl [1, 0] rfl) ?_
  intro σ16 H locs ls hF h hl
  refine lv_aload_n hx hb dX7_readTimetable_69 rfl (lv_at hl 0 rfl) ?_
  obtain ⟨r17, σ18, qr17, hF⟩ := bd_u hF
  refine bz_callV (rest := []) (st1 := []) C h (As := []) (o := none) (τ := σ18) (c_X7_record (l := l) ka0 (res := (r17, σ18)) qr17) ka0 (by decide) (ci := 7) rfl (cwV 0 hts (bz_gV wd_8_13 wd_8_14 wd_8_15 wd_1_5 wd_8_16) rfl rfl rfl (by decide +kernel) ⟨Nat.le_of_ble_eq_true rfl, Nat.le_of_ble_eq_true rfl⟩) rfl hl.1 rfl (by decide) ⟨Nat.zero_le _, Nat.zero_le _⟩ dX7_readTimetable_70 rfl (fun H locs h => ?_)
  refine lv_aload_n hx hb dX7_readTimetable_73 rfl (lv_at hl 0 rfl) ?_
  refine gf_7_0 C h ka0 iz_X7 (List.mem_cons_of_mem _ wd_4_13) dX7_readTimetable_74 (fun k19 => ?_)
  refine lv_iconst (v := 4) hx hb dX7_readTimetable_77 (by decide) ?_
  refine lv_aload_n hx hb dX7_readTimetable_78 rfl (lv_at hl 0 rfl) ?_
  refine gf_7_9 C h ka0 iz_X7 (List.mem_cons_of_mem _ wd_27_15) dX7_readTimetable_79 ?_
  refine bz_iast C h k19 (by decide) (kx := 4) (bz_cl 4 (by decide)) dX7_readTimetable_82 (fun H locs h => ?_)
  obtain ⟨σ20, eσ20⟩ : ∃ y : bz_W, y = bz_wi σ18 (σ18.2 a0 0) 4 (σ18.1 a0 9) := ⟨_, rfl⟩
  rw [← eσ20] at h
  have hF := lt_u hF σ20 eσ20
  refine lv_iconst (v := 0) hx hb dX7_readTimetable_83 (by decide) ?_
  refine lv_istore_n (lv' := [(2, .int 0), (0, .ref a0)]) hx hb dX7_readTimetable_84 rfl hl (by decide) rfl (fun ls hl => ?_)
  refine L_X7_readTimetable_L85 C hlocks hr ka0 _ _ _ H locs ls hF h (lv_sub hl [1, 0] rfl) ?_
  intro σ33 H locs ls hF h hl
  refine lv_aload_n hx hb dX7_readTimetable_134 rfl (lv_at hl 0 rfl) ?_
  refine gf_7_9 C h ka0 iz_X7 (List.mem_cons_of_mem _ wd_27_15) dX7_readTimetable_135 ?_
  exact bz_iret C h hlocks hr hF dX7_readTimetable_138
set_option maxHeartbeats 4000000 in
set_option maxRecDepth 100000 in
theorem c_X7_item {l : Launch} {G : bz_G} {σ : bz_W} {a0 : Nat} {x1_ : Int32} {x2_ : Int32} (ka0 : bz_k G a0 = (8, 0)) {res : Int32 × bz_W} (hF : f_X7_item σ a0 x1_ x2_ = some res) : bz_M l yX7_item wz_X7_item 1 22 G σ [.ref a0, .int x1_, .int x2_] (some (.int res.1)) res.2 := by
  refine bz_mk (cc := cX7_item) (maxL := 4) (ret := (some .int)) (own := RX7) (by decide) rfl rfl (Nat.le_of_ble_eq_true rfl) ?_
  intro p e s m args below meth c ls C hlocks hr h hl
  have hx := C.1
  have hb := C.2.1
  have hts := C.2.2.2.2.1
  have hl : lv_has ls 4 [(0, .ref a0), (1, .int x1_), (2, .int x2_)] := hl
  obtain ⟨H, eH⟩ : ∃ y, y = s.heap := ⟨_, rfl⟩
  obtain ⟨locs, el⟩ : ∃ y : List Loc, y = [] := ⟨_, rfl⟩
  rw [← el, ← eH] at h ⊢
  unfold f_X7_item at hF
  refine lv_iload_n hx hb dX7_item_0 rfl (lv_at hl 1 rfl) ?_
  refine lv_if_lt (tgt := 13) hx hb dX7_item_1 (by decide) (fun c1 => ?_) (fun c1 => ?_)
  · have hF := it_t hF c1
    refine lv_bipush (v := (-2)) hx hb dX7_item_13 (by decide) ?_
    exact bz_iret C h hlocks hr hF dX7_item_15
  · have hF := it_f hF c1
    refine lv_iload_n hx hb dX7_item_4 rfl (lv_at hl 2 rfl) ?_
    refine lv_iconst (v := 0) hx hb dX7_item_5 (by decide) ?_
    refine lv_iconst (v := 3) hx hb dX7_item_6 (by decide) ?_
    obtain ⟨r2, σ3, qr2, hF⟩ := bd_u hF
    refine bz_callS (rest := []) (st1 := [.int r2]) C h (As := [.int x2_, .int 0, .int 3]) (o := some (.int r2)) (τ := σ3) (c_X7_in (l := l)  (res := (r2, σ3)) qr2) (va_cwS 3 hts (bz_gS wd_8_5 wd_8_6 wd_1_5 wd_8_7) rfl rfl rfl (by decide +kernel) ⟨Nat.le_of_ble_eq_true rfl, Nat.le_of_ble_eq_true rfl⟩) rfl hl.1 rfl (by decide) ⟨Nat.zero_le _, Nat.zero_le _⟩ dX7_item_7 rfl (fun H locs h => ?_)
    refine lv_if_ne (tgt := 16) hx hb dX7_item_10 (by decide) (fun c4 => ?_) (fun c4 => ?_)
    · have hF := it_f hF c4
      refine lv_iload_n hx hb dX7_item_16 rfl (lv_at hl 1 rfl) ?_
      refine lv_aload_n hx hb dX7_item_17 rfl (lv_at hl 0 rfl) ?_
      refine gf_7_0 C h ka0 iz_X7 (List.mem_cons_of_mem _ wd_4_13) dX7_item_18 (fun k5 => ?_)
      refine lv_iconst (v := 4) hx hb dX7_item_21 (by decide) ?_
      refine bz_iald C h k5 (by decide) (kx := 4) (bz_cl 4 (by decide)) dX7_item_22 ?_
      refine lv_icmp_lt (tgt := 29) hx hb dX7_item_23 (by decide) (fun c6 => ?_) (fun c6 => ?_)
      · have hF := it_t hF c6
        refine lv_aload_n hx hb dX7_item_29 rfl (lv_at hl 0 rfl) ?_
        refine gf_7_0 C h ka0 iz_X7 (List.mem_cons_of_mem _ wd_4_13) dX7_item_30 (fun k7 => ?_)
        refine lv_sipush (v := 168) hx hb dX7_item_33 (by decide) ?_
        refine lv_iconst (v := 4) hx hb dX7_item_36 (by decide) ?_
        refine lv_iload_n hx hb dX7_item_37 rfl (lv_at hl 1 rfl) ?_
        refine lv_imul hx hb dX7_item_38 ?_
        refine lv_iadd hx hb dX7_item_39 ?_
        refine lv_iload_n hx hb dX7_item_40 rfl (lv_at hl 2 rfl) ?_
        refine lv_iadd hx hb dX7_item_41 ?_
        obtain ⟨c8, hF⟩ := ck_u hF
        refine bz_iald C h k7 c8 (kx := (((168 + (4 * x1_)) + x2_) : Int32).toNatClampNeg) rfl dX7_item_42 ?_
        refine lv_topi (fun x9 ex9 => ?_)
        have hF := lt_u hF x9 ex9
        refine lv_istore_n (lv' := [(3, .int x9), (0, .ref a0), (1, .int x1_), (2, .int x2_)]) hx hb dX7_item_43 rfl hl (by decide) rfl (fun ls hl => ?_)
        refine lv_iload_n hx hb dX7_item_44 rfl (lv_at hl 3 rfl) ?_
        refine lv_if_ne (tgt := 59) hx hb dX7_item_45 (by decide) (fun c10 => ?_) (fun c10 => ?_)
        · have hF := it_f hF c10
          refine lv_iload_n hx hb dX7_item_59 rfl (lv_at hl 0 rfl) ?_
          exact bz_iret C h hlocks hr hF dX7_item_60
        · have hF := it_t hF c10
          refine lv_iload_n hx hb dX7_item_48 rfl (lv_at hl 0 rfl) ?_
          refine lv_aload_n hx hb dX7_item_49 rfl (lv_at hl 1 rfl) ?_
          refine gf_7_0 C h ka0 iz_X7 (List.mem_cons_of_mem _ wd_4_13) dX7_item_50 (fun k11 => ?_)
          refine lv_iconst (v := 1) hx hb dX7_item_53 (by decide) ?_
          refine bz_iald C h k11 (by decide) (kx := 1) (bz_cl 1 (by decide)) dX7_item_54 ?_
          refine lv_isub hx hb dX7_item_55 ?_
          refine lv_goto (tgt := 60) hx hb dX7_item_56 (by decide) ?_
          exact bz_iret C h hlocks hr hF dX7_item_60
      · have hF := it_f hF c6
        refine lv_bipush (v := (-4)) hx hb dX7_item_26 (by decide) ?_
        exact bz_iret C h hlocks hr hF dX7_item_28
    · have hF := it_t hF c4
      refine lv_bipush (v := (-2)) hx hb dX7_item_13 (by decide) ?_
      exact bz_iret C h hlocks hr hF dX7_item_15
set_option maxHeartbeats 4000000 in
set_option maxRecDepth 100000 in
theorem L_X7_undo_L22 {p : Program} {l : Launch} {e : Env} {s : State} {m : MethodId} {args : Array Value} {below : List Frame} {meth : Method} {c : Code} {G : bz_G} (C : bz_C p s m c args cX7_undo 2 RX7 wz_X7_undo G) (hlocks : meth.locks = false) (hr : meth.sig.returnType = (some .int)) {a0 : Nat} (ka0 : bz_k G a0 = (8, 0)) {k : bz_W → Option (Int32 × bz_W)} {res : Int32 × bz_W} : ∀ (n : Nat) (v1 : Int32) (σ : bz_W) (H : Heap) (locs : List Loc) (ls : Array Slot), f_X7_undo_L22 a0 k n v1 σ = some res → bz_H G s σ H locs → lv_has ls 2 [(0, .ref a0), (1, .int v1)] → (∀ (σ : bz_W) (H : Heap) (locs : List Loc) (ls : Array Slot), k σ = some res → bz_H G s σ H locs → lv_has ls 2 [(0, .ref a0)] → W p l e ({ frames := 0, cells := 0, slots := 0, locals := 0 } : Room) s m args below meth c H locs 0 0 (MQ below (bz_Qc G (some (.int res.1)) res.2) args s 0 0 (bz_A G)) (F0 m 56 ls [])) → W p l e ({ frames := 0, cells := 0, slots := 0, locals := 0 } : Room) s m args below meth c H locs 0 0 (MQ below (bz_Qc G (some (.int res.1)) res.2) args s 0 0 (bz_A G)) (F0 m 22 ls []) := by
  have hx := C.1
  have hb := C.2.1
  have hts := C.2.2.2.2.1
  intro n
  induction n with
  | zero =>
    intro v1 σ H locs ls hF
    exact absurd hF (by simp [f_X7_undo_L22])
  | succ n ih =>
    intro v1 σ H locs ls hF h hl hk
    rw [f_X7_undo_L22] at hF
    refine lv_iload_n hx hb dX7_undo_22 rfl (lv_at hl 1 rfl) ?_
    refine lv_sipush (v := 246) hx hb dX7_undo_23 (by decide) ?_
    refine lv_icmp_ge (tgt := 56) hx hb dX7_undo_26 (by decide) (fun c3 => ?_) (fun c3 => ?_)
    · have hF := it_t hF c3
      exact hk _ H locs ls hF h (lv_sub hl [0] rfl)
    · have hF := it_f hF c3
      refine lv_aload_n hx hb dX7_undo_29 rfl (lv_at hl 0 rfl) ?_
      refine gf_7_0 C h ka0 iz_X7 (List.mem_cons_of_mem _ wd_4_13) dX7_undo_30 (fun k4 => ?_)
      refine lv_iload_n hx hb dX7_undo_33 rfl (lv_at hl 1 rfl) ?_
      refine lv_aload_n hx hb dX7_undo_34 rfl (lv_at hl 0 rfl) ?_
      refine gf_7_1 C h ka0 iz_X7 (List.mem_cons_of_mem _ wd_4_14) dX7_undo_35 (fun k5 => ?_)
      refine lv_sipush (v := 246) hx hb dX7_undo_38 (by decide) ?_
      refine lv_aload_n hx hb dX7_undo_41 rfl (lv_at hl 0 rfl) ?_
      refine gf_7_2 C h ka0 iz_X7 (List.mem_cons_of_mem _ wd_8_17) dX7_undo_42 ?_
      refine lv_imul hx hb dX7_undo_45 ?_
      refine lv_iload_n hx hb dX7_undo_46 rfl (lv_at hl 1 rfl) ?_
      refine lv_iadd hx hb dX7_undo_47 ?_
      obtain ⟨c6, hF⟩ := ck_u hF
      refine bz_iald C h k5 c6 (kx := (((246 * (σ.1 a0 2)) + v1) : Int32).toNatClampNeg) rfl dX7_undo_48 ?_
      obtain ⟨c7, hF⟩ := ck_u hF
      refine bz_iast C h k4 c7 (kx := v1.toNatClampNeg) rfl dX7_undo_49 (fun H locs h => ?_)
      obtain ⟨σ8, eσ8⟩ : ∃ y : bz_W, y = bz_wi σ (σ.2 a0 0) v1.toNatClampNeg (σ.1 (σ.2 a0 1) (((246 * (σ.1 a0 2)) + v1) : Int32).toNatClampNeg) := ⟨_, rfl⟩
      rw [← eσ8] at h
      have hF := lt_u hF σ8 eσ8
      obtain ⟨x9, ex9⟩ : ∃ y : Int32, y = v1 + 1 := ⟨_, rfl⟩
      have hF := lt_u hF x9 ex9
      refine lv_iinc (v := x9) (lv' := [(1, .int x9), (0, .ref a0)]) hx hb dX7_undo_50 hl (k := 1) rfl (by rw [ex9]; rfl) (by decide) rfl (fun ls hl => ?_)
      refine lv_goto (tgt := 22) hx hb dX7_undo_53 (by decide) ?_
      exact ih _ _ H locs ls hF h (lv_sub hl [1, 0] rfl) hk
set_option maxHeartbeats 4000000 in
set_option maxRecDepth 100000 in
theorem c_X7_undo {l : Launch} {G : bz_G} {σ : bz_W} {a0 : Nat} (ka0 : bz_k G a0 = (8, 0)) {res : Int32 × bz_W} (hF : f_X7_undo σ a0 = some res) : bz_M l yX7_undo wz_X7_undo 0 0 G σ [.ref a0] (some (.int res.1)) res.2 := by
  refine bz_mk (cc := cX7_undo) (maxL := 2) (ret := (some .int)) (own := RX7) (by decide) rfl rfl (Nat.le_of_ble_eq_true rfl) ?_
  intro p e s m args below meth c ls C hlocks hr h hl
  have hx := C.1
  have hb := C.2.1
  have hts := C.2.2.2.2.1
  have hl : lv_has ls 2 [(0, .ref a0)] := hl
  obtain ⟨H, eH⟩ : ∃ y, y = s.heap := ⟨_, rfl⟩
  obtain ⟨locs, el⟩ : ∃ y : List Loc, y = [] := ⟨_, rfl⟩
  rw [← el, ← eH] at h ⊢
  unfold f_X7_undo at hF
  refine lv_aload_n hx hb dX7_undo_0 rfl (lv_at hl 0 rfl) ?_
  refine gf_7_2 C h ka0 iz_X7 (List.mem_cons_of_mem _ wd_8_17) dX7_undo_1 ?_
  refine lv_if_ne (tgt := 10) hx hb dX7_undo_4 (by decide) (fun c1 => ?_) (fun c1 => ?_)
  · have hF := it_f hF c1
    refine lv_aload_n hx hb dX7_undo_10 rfl (lv_at hl 0 rfl) ?_
    refine lv_dup hx hb dX7_undo_11 rfl ?_
    refine gf_7_2 C h ka0 iz_X7 (List.mem_cons_of_mem _ wd_8_17) dX7_undo_12 ?_
    refine lv_iconst (v := 1) hx hb dX7_undo_15 (by decide) ?_
    refine lv_isub hx hb dX7_undo_16 ?_
    refine pf_7_2 C h ka0 iz_X7 (List.mem_cons_of_mem _ wd_8_17) dX7_undo_17 (fun H locs h => ?_)
    obtain ⟨σ2, eσ2⟩ : ∃ y : bz_W, y = bz_wi σ a0 2 ((σ.1 a0 2) - 1) := ⟨_, rfl⟩
    rw [← eσ2] at h
    have hF := lt_u hF σ2 eσ2
    refine lv_iconst (v := 0) hx hb dX7_undo_20 (by decide) ?_
    refine lv_istore_n (lv' := [(1, .int 0), (0, .ref a0)]) hx hb dX7_undo_21 rfl hl (by decide) rfl (fun ls hl => ?_)
    refine L_X7_undo_L22 C hlocks hr ka0 _ _ _ H locs ls hF h (lv_sub hl [1, 0] rfl) ?_
    intro σ10 H locs ls hF h hl
    refine lv_aload_n hx hb dX7_undo_56 rfl (lv_at hl 0 rfl) ?_
    refine gf_7_2 C h ka0 iz_X7 (List.mem_cons_of_mem _ wd_8_17) dX7_undo_57 ?_
    exact bz_iret C h hlocks hr hF dX7_undo_60
  · have hF := it_t hF c1
    refine lv_bipush (v := (-4)) hx hb dX7_undo_7 (by decide) ?_
    exact bz_iret C h hlocks hr hF dX7_undo_9
set_option maxHeartbeats 4000000 in
set_option maxRecDepth 100000 in
theorem L_X7_keep_L2 {p : Program} {l : Launch} {e : Env} {s : State} {m : MethodId} {args : Array Value} {below : List Frame} {meth : Method} {c : Code} {G : bz_G} (C : bz_C p s m c args cX7_keep 2 RX7 wz_X7_keep G) (hlocks : meth.locks = false) (hr : meth.sig.returnType = (some .int)) {a0 : Nat} (ka0 : bz_k G a0 = (8, 0)) {k : bz_W → Option (Int32 × bz_W)} {res : Int32 × bz_W} : ∀ (n : Nat) (v1 : Int32) (σ : bz_W) (H : Heap) (locs : List Loc) (ls : Array Slot), f_X7_keep_L2 a0 k n v1 σ = some res → bz_H G s σ H locs → lv_has ls 2 [(0, .ref a0), (1, .int v1)] → (∀ (σ : bz_W) (H : Heap) (locs : List Loc) (ls : Array Slot), k σ = some res → bz_H G s σ H locs → lv_has ls 2 [(0, .ref a0)] → W p l e ({ frames := 0, cells := 0, slots := 0, locals := 0 } : Room) s m args below meth c H locs 0 0 (MQ below (bz_Qc G (some (.int res.1)) res.2) args s 0 0 (bz_A G)) (F0 m 27 ls [])) → W p l e ({ frames := 0, cells := 0, slots := 0, locals := 0 } : Room) s m args below meth c H locs 0 0 (MQ below (bz_Qc G (some (.int res.1)) res.2) args s 0 0 (bz_A G)) (F0 m 2 ls []) := by
  have hx := C.1
  have hb := C.2.1
  have hts := C.2.2.2.2.1
  intro n
  induction n with
  | zero =>
    intro v1 σ H locs ls hF
    exact absurd hF (by simp [f_X7_keep_L2])
  | succ n ih =>
    intro v1 σ H locs ls hF h hl hk
    rw [f_X7_keep_L2] at hF
    refine lv_iload_n hx hb dX7_keep_2 rfl (lv_at hl 1 rfl) ?_
    refine lv_sipush (v := 246) hx hb dX7_keep_3 (by decide) ?_
    refine lv_icmp_ge (tgt := 27) hx hb dX7_keep_6 (by decide) (fun c1 => ?_) (fun c1 => ?_)
    · have hF := it_t hF c1
      exact hk _ H locs ls hF h (lv_sub hl [0] rfl)
    · have hF := it_f hF c1
      refine lv_aload_n hx hb dX7_keep_9 rfl (lv_at hl 0 rfl) ?_
      refine gf_7_3 C h ka0 iz_X7 (List.mem_cons_of_mem _ wd_4_15) dX7_keep_10 (fun k2 => ?_)
      refine lv_iload_n hx hb dX7_keep_13 rfl (lv_at hl 1 rfl) ?_
      refine lv_aload_n hx hb dX7_keep_14 rfl (lv_at hl 0 rfl) ?_
      refine gf_7_0 C h ka0 iz_X7 (List.mem_cons_of_mem _ wd_4_13) dX7_keep_15 (fun k3 => ?_)
      refine lv_iload_n hx hb dX7_keep_18 rfl (lv_at hl 1 rfl) ?_
      obtain ⟨c4, hF⟩ := ck_u hF
      refine bz_iald C h k3 c4 (kx := v1.toNatClampNeg) rfl dX7_keep_19 ?_
      obtain ⟨c5, hF⟩ := ck_u hF
      refine bz_iast C h k2 c5 (kx := v1.toNatClampNeg) rfl dX7_keep_20 (fun H locs h => ?_)
      obtain ⟨σ6, eσ6⟩ : ∃ y : bz_W, y = bz_wi σ (σ.2 a0 3) v1.toNatClampNeg (σ.1 (σ.2 a0 0) v1.toNatClampNeg) := ⟨_, rfl⟩
      rw [← eσ6] at h
      have hF := lt_u hF σ6 eσ6
      obtain ⟨x7, ex7⟩ : ∃ y : Int32, y = v1 + 1 := ⟨_, rfl⟩
      have hF := lt_u hF x7 ex7
      refine lv_iinc (v := x7) (lv' := [(1, .int x7), (0, .ref a0)]) hx hb dX7_keep_21 hl (k := 1) rfl (by rw [ex7]; rfl) (by decide) rfl (fun ls hl => ?_)
      refine lv_goto (tgt := 2) hx hb dX7_keep_24 (by decide) ?_
      exact ih _ _ H locs ls hF h (lv_sub hl [1, 0] rfl) hk
set_option maxHeartbeats 4000000 in
set_option maxRecDepth 100000 in
theorem c_X7_keep {l : Launch} {G : bz_G} {σ : bz_W} {a0 : Nat} (ka0 : bz_k G a0 = (8, 0)) {res : Int32 × bz_W} (hF : f_X7_keep σ a0 = some res) : bz_M l yX7_keep wz_X7_keep 0 0 G σ [.ref a0] (some (.int res.1)) res.2 := by
  refine bz_mk (cc := cX7_keep) (maxL := 2) (ret := (some .int)) (own := RX7) (by decide) rfl rfl (Nat.le_of_ble_eq_true rfl) ?_
  intro p e s m args below meth c ls C hlocks hr h hl
  have hx := C.1
  have hb := C.2.1
  have hts := C.2.2.2.2.1
  have hl : lv_has ls 2 [(0, .ref a0)] := hl
  obtain ⟨H, eH⟩ : ∃ y, y = s.heap := ⟨_, rfl⟩
  obtain ⟨locs, el⟩ : ∃ y : List Loc, y = [] := ⟨_, rfl⟩
  rw [← el, ← eH] at h ⊢
  unfold f_X7_keep at hF
  refine lv_iconst (v := 0) hx hb dX7_keep_0 (by decide) ?_
  refine lv_istore_n (lv' := [(1, .int 0), (0, .ref a0)]) hx hb dX7_keep_1 rfl hl (by decide) rfl (fun ls hl => ?_)
  refine L_X7_keep_L2 C hlocks hr ka0 _ _ _ H locs ls hF h (lv_sub hl [1, 0] rfl) ?_
  intro σ8 H locs ls hF h hl
  refine lv_aload_n hx hb dX7_keep_27 rfl (lv_at hl 0 rfl) ?_
  refine lv_iconst (v := 1) hx hb dX7_keep_28 (by decide) ?_
  refine pf_7_4 C h ka0 iz_X7 (List.mem_cons_of_mem _ wd_29_19) (by decide) dX7_keep_29 (fun H locs h => ?_)
  obtain ⟨σ9, eσ9⟩ : ∃ y : bz_W, y = bz_wi σ8 a0 4 1 := ⟨_, rfl⟩
  rw [← eσ9] at h
  have hF := lt_u hF σ9 eσ9
  refine lv_aload_n hx hb dX7_keep_32 rfl (lv_at hl 0 rfl) ?_
  refine gf_7_0 C h ka0 iz_X7 (List.mem_cons_of_mem _ wd_4_13) dX7_keep_33 (fun k10 => ?_)
  refine lv_iconst (v := 1) hx hb dX7_keep_36 (by decide) ?_
  refine bz_iald C h k10 (by decide) (kx := 1) (bz_cl 1 (by decide)) dX7_keep_37 ?_
  exact bz_iret C h hlocks hr hF dX7_keep_38
set_option maxHeartbeats 4000000 in
set_option maxRecDepth 100000 in
theorem L_X7_restore_L16 {p : Program} {l : Launch} {e : Env} {s : State} {m : MethodId} {args : Array Value} {below : List Frame} {meth : Method} {c : Code} {G : bz_G} (C : bz_C p s m c args cX7_restore 2 RX7 wz_X7_restore G) (hlocks : meth.locks = false) (hr : meth.sig.returnType = (some .int)) {a0 : Nat} (ka0 : bz_k G a0 = (8, 0)) {k : bz_W → Option (Int32 × bz_W)} {res : Int32 × bz_W} : ∀ (n : Nat) (v1 : Int32) (σ : bz_W) (H : Heap) (locs : List Loc) (ls : Array Slot), f_X7_restore_L16 a0 k n v1 σ = some res → bz_H G s σ H locs → lv_has ls 2 [(0, .ref a0), (1, .int v1)] → (∀ (σ : bz_W) (H : Heap) (locs : List Loc) (ls : Array Slot), k σ = some res → bz_H G s σ H locs → lv_has ls 2 [(0, .ref a0)] → W p l e ({ frames := 1, cells := 0, slots := 0, locals := 21 } : Room) s m args below meth c H locs 0 0 (MQ below (bz_Qc G (some (.int res.1)) res.2) args s 0 0 (bz_A G)) (F0 m 41 ls [])) → W p l e ({ frames := 1, cells := 0, slots := 0, locals := 21 } : Room) s m args below meth c H locs 0 0 (MQ below (bz_Qc G (some (.int res.1)) res.2) args s 0 0 (bz_A G)) (F0 m 16 ls []) := by
  have hx := C.1
  have hb := C.2.1
  have hts := C.2.2.2.2.1
  intro n
  induction n with
  | zero =>
    intro v1 σ H locs ls hF
    exact absurd hF (by simp [f_X7_restore_L16])
  | succ n ih =>
    intro v1 σ H locs ls hF h hl hk
    rw [f_X7_restore_L16] at hF
    refine lv_iload_n hx hb dX7_restore_16 rfl (lv_at hl 1 rfl) ?_
    refine lv_sipush (v := 246) hx hb dX7_restore_17 (by decide) ?_
    refine lv_icmp_ge (tgt := 41) hx hb dX7_restore_20 (by decide) (fun c4 => ?_) (fun c4 => ?_)
    · have hF := it_t hF c4
      exact hk _ H locs ls hF h (lv_sub hl [0] rfl)
    · have hF := it_f hF c4
      refine lv_aload_n hx hb dX7_restore_23 rfl (lv_at hl 0 rfl) ?_
      refine gf_7_0 C h ka0 iz_X7 (List.mem_cons_of_mem _ wd_4_13) dX7_restore_24 (fun k5 => ?_)
      refine lv_iload_n hx hb dX7_restore_27 rfl (lv_at hl 1 rfl) ?_
      refine lv_aload_n hx hb dX7_restore_28 rfl (lv_at hl 0 rfl) ?_
      refine gf_7_3 C h ka0 iz_X7 (List.mem_cons_of_mem _ wd_4_15) dX7_restore_29 (fun k6 => ?_)
      refine lv_iload_n hx hb dX7_restore_32 rfl (lv_at hl 1 rfl) ?_
      obtain ⟨c7, hF⟩ := ck_u hF
      refine bz_iald C h k6 c7 (kx := v1.toNatClampNeg) rfl dX7_restore_33 ?_
      obtain ⟨c8, hF⟩ := ck_u hF
      refine bz_iast C h k5 c8 (kx := v1.toNatClampNeg) rfl dX7_restore_34 (fun H locs h => ?_)
      obtain ⟨σ9, eσ9⟩ : ∃ y : bz_W, y = bz_wi σ (σ.2 a0 0) v1.toNatClampNeg (σ.1 (σ.2 a0 3) v1.toNatClampNeg) := ⟨_, rfl⟩
      rw [← eσ9] at h
      have hF := lt_u hF σ9 eσ9
      obtain ⟨x10, ex10⟩ : ∃ y : Int32, y = v1 + 1 := ⟨_, rfl⟩
      have hF := lt_u hF x10 ex10
      refine lv_iinc (v := x10) (lv' := [(1, .int x10), (0, .ref a0)]) hx hb dX7_restore_35 hl (k := 1) rfl (by rw [ex10]; rfl) (by decide) rfl (fun ls hl => ?_)
      refine lv_goto (tgt := 16) hx hb dX7_restore_38 (by decide) ?_
      exact ih _ _ H locs ls hF h (lv_sub hl [1, 0] rfl) hk
set_option maxHeartbeats 4000000 in
set_option maxRecDepth 100000 in
theorem c_X7_restore {l : Launch} {G : bz_G} {σ : bz_W} {a0 : Nat} (ka0 : bz_k G a0 = (8, 0)) {res : Int32 × bz_W} (hF : f_X7_restore σ a0 = some res) : bz_M l yX7_restore wz_X7_restore 1 21 G σ [.ref a0] (some (.int res.1)) res.2 := by
  refine bz_mk (cc := cX7_restore) (maxL := 2) (ret := (some .int)) (own := RX7) (by decide) rfl rfl (Nat.le_of_ble_eq_true rfl) ?_
  intro p e s m args below meth c ls C hlocks hr h hl
  have hx := C.1
  have hb := C.2.1
  have hts := C.2.2.2.2.1
  have hl : lv_has ls 2 [(0, .ref a0)] := hl
  obtain ⟨H, eH⟩ : ∃ y, y = s.heap := ⟨_, rfl⟩
  obtain ⟨locs, el⟩ : ∃ y : List Loc, y = [] := ⟨_, rfl⟩
  rw [← el, ← eH] at h ⊢
  unfold f_X7_restore at hF
  refine lv_aload_n hx hb dX7_restore_0 rfl (lv_at hl 0 rfl) ?_
  refine gf_7_4 C h ka0 iz_X7 (List.mem_cons_of_mem _ wd_29_19) dX7_restore_1 ?_
  refine lv_if_ne (tgt := 10) hx hb dX7_restore_4 (by decide) (fun c1 => ?_) (fun c1 => ?_)
  · have hF := it_f hF c1
    refine lv_aload_n hx hb dX7_restore_10 rfl (lv_at hl 0 rfl) ?_
    obtain ⟨r2, σ3, qr2, hF⟩ := bd_u hF
    refine bz_callV (rest := []) (st1 := []) C h (As := []) (o := none) (τ := σ3) (c_X7_record (l := l) ka0 (res := (r2, σ3)) qr2) ka0 (by decide) (ci := 7) rfl (cwV 0 hts (bz_gV wd_8_13 wd_8_14 wd_8_15 wd_1_5 wd_8_16) rfl rfl rfl (by decide +kernel) ⟨Nat.le_of_ble_eq_true rfl, Nat.le_of_ble_eq_true rfl⟩) rfl hl.1 rfl (by decide) ⟨Nat.zero_le _, Nat.zero_le _⟩ dX7_restore_11 rfl (fun H locs h => ?_)
    refine lv_iconst (v := 0) hx hb dX7_restore_14 (by decide) ?_
    refine lv_istore_n (lv' := [(1, .int 0), (0, .ref a0)]) hx hb dX7_restore_15 rfl hl (by decide) rfl (fun ls hl => ?_)
    refine L_X7_restore_L16 C hlocks hr ka0 _ _ _ H locs ls hF h (lv_sub hl [1, 0] rfl) ?_
    intro σ11 H locs ls hF h hl
    refine lv_aload_n hx hb dX7_restore_41 rfl (lv_at hl 0 rfl) ?_
    refine gf_7_0 C h ka0 iz_X7 (List.mem_cons_of_mem _ wd_4_13) dX7_restore_42 (fun k12 => ?_)
    refine lv_iconst (v := 1) hx hb dX7_restore_45 (by decide) ?_
    refine bz_iald C h k12 (by decide) (kx := 1) (bz_cl 1 (by decide)) dX7_restore_46 ?_
    exact bz_iret C h hlocks hr hF dX7_restore_47
  · have hF := it_t hF c1
    refine lv_bipush (v := (-4)) hx hb dX7_restore_7 (by decide) ?_
    exact bz_iret C h hlocks hr hF dX7_restore_9
set_option maxHeartbeats 4000000 in
set_option maxRecDepth 100000 in
theorem c_X7_motor {l : Launch} {G : bz_G} {σ : bz_W} {a0 : Nat} {x1_ : Int32} {x2_ : Int32} (ka0 : bz_k G a0 = (8, 0)) {res : Int32 × bz_W} (hF : f_X7_motor σ a0 x1_ x2_ = some res) : bz_M l yX7_motor wz_X7_motor 3 64 G σ [.ref a0, .int x1_, .int x2_] (some (.int res.1)) res.2 := by
  refine bz_mk (cc := cX7_motor) (maxL := 4) (ret := (some .int)) (own := RX7) (by decide) rfl rfl (Nat.le_of_ble_eq_true rfl) ?_
  intro p e s m args below meth c ls C hlocks hr h hl
  have hx := C.1
  have hb := C.2.1
  have hts := C.2.2.2.2.1
  have hl : lv_has ls 4 [(0, .ref a0), (1, .int x1_), (2, .int x2_)] := hl
  obtain ⟨H, eH⟩ : ∃ y, y = s.heap := ⟨_, rfl⟩
  obtain ⟨locs, el⟩ : ∃ y : List Loc, y = [] := ⟨_, rfl⟩
  rw [← el, ← eH] at h ⊢
  unfold f_X7_motor at hF
  refine lv_aload_n hx hb dX7_motor_0 rfl (lv_at hl 0 rfl) ?_
  refine lv_iload_n hx hb dX7_motor_1 rfl (lv_at hl 1 rfl) ?_
  obtain ⟨r1, σ2, qr1, hF⟩ := bd_u hF
  refine bz_callV (rest := []) (st1 := [.int r1]) C h (As := [.int x1_]) (o := some (.int r1)) (τ := σ2) (c_X7_noMotor (l := l) ka0 (res := (r1, σ2)) qr1) ka0 (by decide) (ci := 7) rfl (cwV 1 hts (bz_gV wd_9_11 wd_9_12 wd_9_13 wd_1_5 wd_9_14) rfl rfl rfl (by decide +kernel) ⟨Nat.le_of_ble_eq_true rfl, Nat.le_of_ble_eq_true rfl⟩) rfl hl.1 rfl (by decide) ⟨Nat.zero_le _, Nat.zero_le _⟩ dX7_motor_2 rfl (fun H locs h => ?_)
  refine lv_if_eq (tgt := 10) hx hb dX7_motor_5 (by decide) (fun c3 => ?_) (fun c3 => ?_)
  · have hF := it_t hF c3
    refine lv_aload_n hx hb dX7_motor_10 rfl (lv_at hl 0 rfl) ?_
    refine lv_iload_n hx hb dX7_motor_11 rfl (lv_at hl 1 rfl) ?_
    refine lv_iconst (v := 5) hx hb dX7_motor_12 (by decide) ?_
    obtain ⟨r4, σ5, qr4, hF⟩ := bd_u hF
    refine bz_callV (rest := []) (st1 := [.int r4]) C h (As := [.int x1_, .int 5]) (o := some (.int r4)) (τ := σ5) (c_X7_of (l := l) ka0 (res := (r4, σ5)) qr4) ka0 (by decide) (ci := 7) rfl (cwV 2 hts (bz_gV wd_9_15 wd_9_16 wd_9_17 wd_1_5 wd_9_18) rfl rfl rfl (by decide +kernel) ⟨Nat.le_of_ble_eq_true rfl, Nat.le_of_ble_eq_true rfl⟩) rfl hl.1 rfl (by decide) ⟨Nat.zero_le _, Nat.zero_le _⟩ dX7_motor_13 rfl (fun H locs h => ?_)
    refine lv_istore_n (lv' := [(3, .int r4), (0, .ref a0), (1, .int x1_), (2, .int x2_)]) hx hb dX7_motor_16 rfl hl (by decide) rfl (fun ls hl => ?_)
    refine lv_iload_n hx hb dX7_motor_17 rfl (lv_at hl 3 rfl) ?_
    obtain ⟨j7, ej7, hF⟩ := lt_j hF
    have hj7 : ∀ (σ6 : bz_W) (H : Heap) (locs : List Loc) (ls : Array Slot), j7 σ6 = some res → bz_H G s σ6 H locs → lv_has ls 4 [(0, .ref a0), (1, .int x1_), (2, .int x2_)] → W p l e ({ frames := 3, cells := 0, slots := 0, locals := 64 } : Room) s m args below meth c H locs 0 0 (MQ below (bz_Qc G (some (.int res.1)) res.2) args s 0 0 (bz_A G)) (F0 m 84 ls []) := by
        intro σ6 H locs ls hF h hl
        subst ej7
        refine lv_aload_n hx hb dX7_motor_84 rfl (lv_at hl 0 rfl) ?_
        refine lv_iload_n hx hb dX7_motor_85 rfl (lv_at hl 1 rfl) ?_
        refine lv_iload_n hx hb dX7_motor_86 rfl (lv_at hl 2 rfl) ?_
        obtain ⟨r8, σ9, qr8, hF⟩ := bd_u hF
        refine bz_callV (rest := []) (st1 := [.int r8]) C h (As := [.int x1_, .int x2_]) (o := some (.int r8)) (τ := σ9) (c_X7_of (l := l) ka0 (res := (r8, σ9)) qr8) ka0 (by decide) (ci := 7) rfl (cwV 2 hts (bz_gV wd_9_15 wd_9_16 wd_9_17 wd_1_5 wd_9_18) rfl rfl rfl (by decide +kernel) ⟨Nat.le_of_ble_eq_true rfl, Nat.le_of_ble_eq_true rfl⟩) rfl hl.1 rfl (by decide) ⟨Nat.zero_le _, Nat.zero_le _⟩ dX7_motor_87 rfl (fun H locs h => ?_)
        exact bz_iret C h hlocks hr hF dX7_motor_90
    by_cases c10 : x2_ = 0
    · have hF := it_t hF c10
      refine lv_tableIn (tgt := 84) hx hb dX7_motor_18 (by rw [c10]; decide) (by rw [c10]; decide) (by rw [c10]; rfl) (by decide) ?_
      exact hj7 _ H locs ls hF h (lv_sub hl [1, 2, 3] rfl)
    have hF := it_f hF c10
    by_cases c11 : x2_ = 1
    · have hF := it_t hF c11
      refine lv_tableIn (tgt := 84) hx hb dX7_motor_18 (by rw [c11]; decide) (by rw [c11]; decide) (by rw [c11]; rfl) (by decide) ?_
      exact hj7 _ H locs ls hF h (lv_sub hl [1, 2, 3] rfl)
    have hF := it_f hF c11
    by_cases c12 : x2_ = 2
    · have hF := it_t hF c12
      refine lv_tableIn (tgt := 84) hx hb dX7_motor_18 (by rw [c12]; decide) (by rw [c12]; decide) (by rw [c12]; rfl) (by decide) ?_
      exact hj7 _ H locs ls hF h (lv_sub hl [1, 2, 3] rfl)
    have hF := it_f hF c12
    by_cases c13 : x2_ = 3
    · have hF := it_t hF c13
      refine lv_tableIn (tgt := 84) hx hb dX7_motor_18 (by rw [c13]; decide) (by rw [c13]; decide) (by rw [c13]; rfl) (by decide) ?_
      exact hj7 _ H locs ls hF h (lv_sub hl [1, 2, 3] rfl)
    have hF := it_f hF c13
    by_cases c14 : x2_ = 4
    · have hF := it_t hF c14
      refine lv_tableIn (tgt := 84) hx hb dX7_motor_18 (by rw [c14]; decide) (by rw [c14]; decide) (by rw [c14]; rfl) (by decide) ?_
      exact hj7 _ H locs ls hF h (lv_sub hl [1, 2, 3] rfl)
    have hF := it_f hF c14
    by_cases c15 : x2_ = 5
    · have hF := it_t hF c15
      refine lv_tableIn (tgt := 84) hx hb dX7_motor_18 (by rw [c15]; decide) (by rw [c15]; decide) (by rw [c15]; rfl) (by decide) ?_
      exact hj7 _ H locs ls hF h (lv_sub hl [1, 2, 3] rfl)
    have hF := it_f hF c15
    by_cases c16 : x2_ = 6
    · have hF := it_t hF c16
      refine lv_tableIn (tgt := 84) hx hb dX7_motor_18 (by rw [c16]; decide) (by rw [c16]; decide) (by rw [c16]; rfl) (by decide) ?_
      exact hj7 _ H locs ls hF h (lv_sub hl [1, 2, 3] rfl)
    have hF := it_f hF c16
    by_cases c17 : x2_ = 7
    · have hF := it_t hF c17
      refine lv_tableIn (tgt := 84) hx hb dX7_motor_18 (by rw [c17]; decide) (by rw [c17]; decide) (by rw [c17]; rfl) (by decide) ?_
      exact hj7 _ H locs ls hF h (lv_sub hl [1, 2, 3] rfl)
    have hF := it_f hF c17
    by_cases c18 : x2_ = 8
    · have hF := it_t hF c18
      refine lv_tableIn (tgt := 91) hx hb dX7_motor_18 (by rw [c18]; decide) (by rw [c18]; decide) (by rw [c18]; rfl) (by decide) ?_
      refine lv_iload_n hx hb dX7_motor_91 rfl (lv_at hl 0 rfl) ?_
      refine lv_iconst (v := 2) hx hb dX7_motor_92 (by decide) ?_
      refine lv_icmp_ne (tgt := 106) hx hb dX7_motor_93 (by decide) (fun c19 => ?_) (fun c19 => ?_)
      · have hF := it_f hF c19
        refine lv_bipush (v := (-4)) hx hb dX7_motor_106 (by decide) ?_
        exact bz_iret C h hlocks hr hF dX7_motor_108
      · have hF := it_t hF c19
        refine lv_aload_n hx hb dX7_motor_96 rfl (lv_at hl 1 rfl) ?_
        refine lv_iload_n hx hb dX7_motor_97 rfl (lv_at hl 2 rfl) ?_
        refine lv_bipush (v := 8) hx hb dX7_motor_98 (by decide) ?_
        obtain ⟨r20, σ21, qr20, hF⟩ := bd_u hF
        refine bz_callV (rest := []) (st1 := [.int r20]) C h (As := [.int x1_, .int 8]) (o := some (.int r20)) (τ := σ21) (c_X7_of (l := l) ka0 (res := (r20, σ21)) qr20) ka0 (by decide) (ci := 7) rfl (cwV 2 hts (bz_gV wd_9_15 wd_9_16 wd_9_17 wd_1_5 wd_9_18) rfl rfl rfl (by decide +kernel) ⟨Nat.le_of_ble_eq_true rfl, Nat.le_of_ble_eq_true rfl⟩) rfl hl.1 rfl (by decide) ⟨Nat.zero_le _, Nat.zero_le _⟩ dX7_motor_100 rfl (fun H locs h => ?_)
        refine lv_goto (tgt := 108) hx hb dX7_motor_103 (by decide) ?_
        exact bz_iret C h hlocks hr hF dX7_motor_108
    have hF := it_f hF c18
    by_cases c22 : x2_ = 9
    · have hF := it_t hF c22
      refine lv_tableIn (tgt := 109) hx hb dX7_motor_18 (by rw [c22]; decide) (by rw [c22]; decide) (by rw [c22]; rfl) (by decide) ?_
      refine lv_iload_n hx hb dX7_motor_109 rfl (lv_at hl 0 rfl) ?_
      refine lv_iconst (v := 1) hx hb dX7_motor_110 (by decide) ?_
      refine lv_icmp_ne (tgt := 122) hx hb dX7_motor_111 (by decide) (fun c23 => ?_) (fun c23 => ?_)
      · have hF := it_f hF c23
        refine lv_bipush (v := (-4)) hx hb dX7_motor_122 (by decide) ?_
        exact bz_iret C h hlocks hr hF dX7_motor_124
      · have hF := it_t hF c23
        refine lv_aload_n hx hb dX7_motor_114 rfl (lv_at hl 1 rfl) ?_
        refine lv_iload_n hx hb dX7_motor_115 rfl (lv_at hl 2 rfl) ?_
        obtain ⟨r24, σ25, qr24, hF⟩ := bd_u hF
        refine bz_callV (rest := []) (st1 := [.int r24]) C h (As := [.int x1_]) (o := some (.int r24)) (τ := σ25) (c_X7_waitedOf (l := l) ka0 (res := (r24, σ25)) qr24) ka0 (by decide) (ci := 7) rfl (cwV 1 hts (bz_gV wd_15_6 wd_15_7 wd_15_8 wd_1_5 wd_15_9) rfl rfl rfl (by decide +kernel) ⟨Nat.le_of_ble_eq_true rfl, Nat.le_of_ble_eq_true rfl⟩) rfl hl.1 rfl (by decide) ⟨Nat.zero_le _, Nat.zero_le _⟩ dX7_motor_116 rfl (fun H locs h => ?_)
        refine lv_goto (tgt := 124) hx hb dX7_motor_119 (by decide) ?_
        exact bz_iret C h hlocks hr hF dX7_motor_124
    have hF := it_f hF c22
    by_cases c26 : x2_ = 10
    · have hF := it_t hF c26
      refine lv_tableIn (tgt := 125) hx hb dX7_motor_18 (by rw [c26]; decide) (by rw [c26]; decide) (by rw [c26]; rfl) (by decide) ?_
      refine lv_aload_n hx hb dX7_motor_125 rfl (lv_at hl 1 rfl) ?_
      refine lv_iload_n hx hb dX7_motor_126 rfl (lv_at hl 2 rfl) ?_
      obtain ⟨r27, σ28, qr27, hF⟩ := bd_u hF
      refine bz_callV (rest := []) (st1 := [.int r27]) C h (As := [.int x1_]) (o := some (.int r27)) (τ := σ28) (c_X7_draws (l := l) ka0 (res := (r27, σ28)) qr27) ka0 (by decide) (ci := 7) rfl (cwV 1 hts (bz_gV wd_21_7 wd_21_8 wd_21_9 wd_1_5 wd_21_10) rfl rfl rfl (by decide +kernel) ⟨Nat.le_of_ble_eq_true rfl, Nat.le_of_ble_eq_true rfl⟩) rfl hl.1 rfl (by decide) ⟨Nat.zero_le _, Nat.zero_le _⟩ dX7_motor_127 rfl (fun H locs h => ?_)
      exact bz_iret C h hlocks hr hF dX7_motor_130
    have hF := it_f hF c26
    by_cases c29 : x2_ = 11
    · have hF := it_t hF c29
      refine lv_tableIn (tgt := 131) hx hb dX7_motor_18 (by rw [c29]; decide) (by rw [c29]; decide) (by rw [c29]; rfl) (by decide) ?_
      refine lv_iload_n hx hb dX7_motor_131 rfl (lv_at hl 0 rfl) ?_
      refine lv_iconst (v := 4) hx hb dX7_motor_132 (by decide) ?_
      refine lv_icmp_ne (tgt := 146) hx hb dX7_motor_133 (by decide) (fun c30 => ?_) (fun c30 => ?_)
      · have hF := it_f hF c30
        refine lv_bipush (v := (-4)) hx hb dX7_motor_146 (by decide) ?_
        exact bz_iret C h hlocks hr hF dX7_motor_148
      · have hF := it_t hF c30
        refine lv_aload_n hx hb dX7_motor_136 rfl (lv_at hl 1 rfl) ?_
        refine lv_iload_n hx hb dX7_motor_137 rfl (lv_at hl 2 rfl) ?_
        refine lv_bipush (v := 11) hx hb dX7_motor_138 (by decide) ?_
        obtain ⟨r31, σ32, qr31, hF⟩ := bd_u hF
        refine bz_callV (rest := []) (st1 := [.int r31]) C h (As := [.int x1_, .int 11]) (o := some (.int r31)) (τ := σ32) (c_X7_of (l := l) ka0 (res := (r31, σ32)) qr31) ka0 (by decide) (ci := 7) rfl (cwV 2 hts (bz_gV wd_9_15 wd_9_16 wd_9_17 wd_1_5 wd_9_18) rfl rfl rfl (by decide +kernel) ⟨Nat.le_of_ble_eq_true rfl, Nat.le_of_ble_eq_true rfl⟩) rfl hl.1 rfl (by decide) ⟨Nat.zero_le _, Nat.zero_le _⟩ dX7_motor_140 rfl (fun H locs h => ?_)
        refine lv_goto (tgt := 148) hx hb dX7_motor_143 (by decide) ?_
        exact bz_iret C h hlocks hr hF dX7_motor_148
    have hF := it_f hF c29
    by_cases c33 : x2_ = 12
    · have hF := it_t hF c33
      refine lv_tableIn (tgt := 149) hx hb dX7_motor_18 (by rw [c33]; decide) (by rw [c33]; decide) (by rw [c33]; rfl) (by decide) ?_
      refine lv_aload_n hx hb dX7_motor_149 rfl (lv_at hl 1 rfl) ?_
      refine lv_iload_n hx hb dX7_motor_150 rfl (lv_at hl 2 rfl) ?_
      obtain ⟨r34, σ35, qr34, hF⟩ := bd_u hF
      refine bz_callV (rest := []) (st1 := [.int r34]) C h (As := [.int x1_]) (o := some (.int r34)) (τ := σ35) (c_X7_credit (l := l) ka0 (res := (r34, σ35)) qr34) ka0 (by decide) (ci := 7) rfl (cwV 1 hts (bz_gV wd_20_12 wd_20_13 wd_20_14 wd_1_5 wd_20_15) rfl rfl rfl (by decide +kernel) ⟨Nat.le_of_ble_eq_true rfl, Nat.le_of_ble_eq_true rfl⟩) rfl hl.1 rfl (by decide) ⟨Nat.zero_le _, Nat.zero_le _⟩ dX7_motor_151 rfl (fun H locs h => ?_)
      refine lv_if_ge (tgt := 161) hx hb dX7_motor_154 (by decide) (fun c36 => ?_) (fun c36 => ?_)
      · have hF := it_t hF c36
        refine lv_aload_n hx hb dX7_motor_161 rfl (lv_at hl 1 rfl) ?_
        refine lv_iload_n hx hb dX7_motor_162 rfl (lv_at hl 2 rfl) ?_
        obtain ⟨r37, σ38, qr37, hF⟩ := bd_u hF
        refine bz_callV (rest := []) (st1 := [.int r37]) C h (As := [.int x1_]) (o := some (.int r37)) (τ := σ38) (c_X7_credit (l := l) ka0 (res := (r37, σ38)) qr37) ka0 (by decide) (ci := 7) rfl (cwV 1 hts (bz_gV wd_20_12 wd_20_13 wd_20_14 wd_1_5 wd_20_15) rfl rfl rfl (by decide +kernel) ⟨Nat.le_of_ble_eq_true rfl, Nat.le_of_ble_eq_true rfl⟩) rfl hl.1 rfl (by decide) ⟨Nat.zero_le _, Nat.zero_le _⟩ dX7_motor_163 rfl (fun H locs h => ?_)
        exact bz_iret C h hlocks hr hF dX7_motor_166
      · have hF := it_f hF c36
        refine lv_iconst (v := 0) hx hb dX7_motor_157 (by decide) ?_
        refine lv_goto (tgt := 166) hx hb dX7_motor_158 (by decide) ?_
        exact bz_iret C h hlocks hr hF dX7_motor_166
    have hF := it_f hF c33
    refine lv_tableOut (tgt := 167) hx hb dX7_motor_18 (bz_out13 c10 c11 c12 c13 c14 c15 c16 c17 c18 c22 c26 c29 c33) (by decide) ?_
    refine lv_bipush (v := (-2)) hx hb dX7_motor_167 (by decide) ?_
    exact bz_iret C h hlocks hr hF dX7_motor_169
  · have hF := it_f hF c3
    refine lv_iconst (v := (-1)) hx hb dX7_motor_8 (by decide) ?_
    exact bz_iret C h hlocks hr hF dX7_motor_9
set_option maxHeartbeats 4000000 in
set_option maxRecDepth 100000 in
theorem c_X7_account {l : Launch} {G : bz_G} {σ : bz_W} {a0 : Nat} {x1_ : Int32} {x2_ : Int32} (ka0 : bz_k G a0 = (8, 0)) {res : Int32 × bz_W} (hF : f_X7_account σ a0 x1_ x2_ = some res) : bz_M l yX7_account wz_X7_account 2 43 G σ [.ref a0, .int x1_, .int x2_] (some (.int res.1)) res.2 := by
  refine bz_mk (cc := cX7_account) (maxL := 3) (ret := (some .int)) (own := RX7) (by decide) rfl rfl (Nat.le_of_ble_eq_true rfl) ?_
  intro p e s m args below meth c ls C hlocks hr h hl
  have hx := C.1
  have hb := C.2.1
  have hts := C.2.2.2.2.1
  have hl : lv_has ls 3 [(0, .ref a0), (1, .int x1_), (2, .int x2_)] := hl
  obtain ⟨H, eH⟩ : ∃ y, y = s.heap := ⟨_, rfl⟩
  obtain ⟨locs, el⟩ : ∃ y : List Loc, y = [] := ⟨_, rfl⟩
  rw [← el, ← eH] at h ⊢
  unfold f_X7_account at hF
  refine lv_aload_n hx hb dX7_account_0 rfl (lv_at hl 0 rfl) ?_
  refine lv_iload_n hx hb dX7_account_1 rfl (lv_at hl 1 rfl) ?_
  obtain ⟨r1, σ2, qr1, hF⟩ := bd_u hF
  refine bz_callV (rest := []) (st1 := [.int r1]) C h (As := [.int x1_]) (o := some (.int r1)) (τ := σ2) (c_X7_noMotor (l := l) ka0 (res := (r1, σ2)) qr1) ka0 (by decide) (ci := 7) rfl (cwV 1 hts (bz_gV wd_9_11 wd_9_12 wd_9_13 wd_1_5 wd_9_14) rfl rfl rfl (by decide +kernel) ⟨Nat.le_of_ble_eq_true rfl, Nat.le_of_ble_eq_true rfl⟩) rfl hl.1 rfl (by decide) ⟨Nat.zero_le _, Nat.zero_le _⟩ dX7_account_2 rfl (fun H locs h => ?_)
  refine lv_if_eq (tgt := 10) hx hb dX7_account_5 (by decide) (fun c3 => ?_) (fun c3 => ?_)
  · have hF := it_t hF c3
    refine lv_iload_n hx hb dX7_account_10 rfl (lv_at hl 2 rfl) ?_
    refine lv_iconst (v := 0) hx hb dX7_account_11 (by decide) ?_
    refine lv_bipush (v := 6) hx hb dX7_account_12 (by decide) ?_
    obtain ⟨r4, σ5, qr4, hF⟩ := bd_u hF
    refine bz_callS (rest := []) (st1 := [.int r4]) C h (As := [.int x2_, .int 0, .int 6]) (o := some (.int r4)) (τ := σ5) (c_X7_in (l := l)  (res := (r4, σ5)) qr4) (va_cwS 3 hts (bz_gS wd_8_5 wd_8_6 wd_1_5 wd_8_7) rfl rfl rfl (by decide +kernel) ⟨Nat.le_of_ble_eq_true rfl, Nat.le_of_ble_eq_true rfl⟩) rfl hl.1 rfl (by decide) ⟨Nat.zero_le _, Nat.zero_le _⟩ dX7_account_14 rfl (fun H locs h => ?_)
    refine lv_if_eq (tgt := 32) hx hb dX7_account_17 (by decide) (fun c6 => ?_) (fun c6 => ?_)
    · have hF := it_t hF c6
      refine lv_bipush (v := (-2)) hx hb dX7_account_32 (by decide) ?_
      exact bz_iret C h hlocks hr hF dX7_account_34
    · have hF := it_f hF c6
      refine lv_aload_n hx hb dX7_account_20 rfl (lv_at hl 0 rfl) ?_
      refine lv_iload_n hx hb dX7_account_21 rfl (lv_at hl 1 rfl) ?_
      refine lv_bipush (v := 12) hx hb dX7_account_22 (by decide) ?_
      refine lv_iload_n hx hb dX7_account_24 rfl (lv_at hl 2 rfl) ?_
      refine lv_iadd hx hb dX7_account_25 ?_
      obtain ⟨r7, σ8, qr7, hF⟩ := bd_u hF
      refine bz_callV (rest := []) (st1 := [.int r7]) C h (As := [.int x1_, .int (12 + x2_)]) (o := some (.int r7)) (τ := σ8) (c_X7_of (l := l) ka0 (res := (r7, σ8)) qr7) ka0 (by decide) (ci := 7) rfl (cwV 2 hts (bz_gV wd_9_15 wd_9_16 wd_9_17 wd_1_5 wd_9_18) rfl rfl rfl (by decide +kernel) ⟨Nat.le_of_ble_eq_true rfl, Nat.le_of_ble_eq_true rfl⟩) rfl hl.1 rfl (by decide) ⟨Nat.zero_le _, Nat.zero_le _⟩ dX7_account_26 rfl (fun H locs h => ?_)
      refine lv_goto (tgt := 34) hx hb dX7_account_29 (by decide) ?_
      exact bz_iret C h hlocks hr hF dX7_account_34
  · have hF := it_f hF c3
    refine lv_iconst (v := (-1)) hx hb dX7_account_8 (by decide) ?_
    exact bz_iret C h hlocks hr hF dX7_account_9
set_option maxHeartbeats 4000000 in
set_option maxRecDepth 100000 in
theorem c_X7_startHeat {l : Launch} {G : bz_G} {σ : bz_W} {a0 : Nat} {x1_ : Int32} (ka0 : bz_k G a0 = (8, 0)) {res : Int32 × bz_W} (hF : f_X7_startHeat σ a0 x1_ = some res) : bz_M l yX7_startHeat wz_X7_startHeat 4 89 G σ [.ref a0, .int x1_] (some (.int res.1)) res.2 := by
  refine bz_mk (cc := cX7_startHeat) (maxL := 2) (ret := (some .int)) (own := RX7) (by decide) rfl rfl (Nat.le_of_ble_eq_true rfl) ?_
  intro p e s m args below meth c ls C hlocks hr h hl
  have hx := C.1
  have hb := C.2.1
  have hts := C.2.2.2.2.1
  have hl : lv_has ls 2 [(0, .ref a0), (1, .int x1_)] := hl
  obtain ⟨H, eH⟩ : ∃ y, y = s.heap := ⟨_, rfl⟩
  obtain ⟨locs, el⟩ : ∃ y : List Loc, y = [] := ⟨_, rfl⟩
  rw [← el, ← eH] at h ⊢
  unfold f_X7_startHeat at hF
  refine lv_aload_n hx hb dX7_startHeat_0 rfl (lv_at hl 0 rfl) ?_
  refine lv_iload_n hx hb dX7_startHeat_1 rfl (lv_at hl 1 rfl) ?_
  obtain ⟨r1, σ2, qr1, hF⟩ := bd_u hF
  refine bz_callV (rest := []) (st1 := [.int r1]) C h (As := [.int x1_]) (o := some (.int r1)) (τ := σ2) (c_X7_noMotor (l := l) ka0 (res := (r1, σ2)) qr1) ka0 (by decide) (ci := 7) rfl (cwV 1 hts (bz_gV wd_9_11 wd_9_12 wd_9_13 wd_1_5 wd_9_14) rfl rfl rfl (by decide +kernel) ⟨Nat.le_of_ble_eq_true rfl, Nat.le_of_ble_eq_true rfl⟩) rfl hl.1 rfl (by decide) ⟨Nat.zero_le _, Nat.zero_le _⟩ dX7_startHeat_2 rfl (fun H locs h => ?_)
  refine lv_if_eq (tgt := 12) hx hb dX7_startHeat_5 (by decide) (fun c3 => ?_) (fun c3 => ?_)
  · have hF := it_t hF c3
    refine lv_aload_n hx hb dX7_startHeat_12 rfl (lv_at hl 0 rfl) ?_
    refine lv_iload_n hx hb dX7_startHeat_13 rfl (lv_at hl 1 rfl) ?_
    obtain ⟨r4, σ5, qr4, hF⟩ := bd_u hF
    refine bz_callV (rest := []) (st1 := [.int r4]) C h (As := [.int x1_]) (o := some (.int r4)) (τ := σ5) (c_X7_needed (l := l) ka0 (res := (r4, σ5)) qr4) ka0 (by decide) (ci := 7) rfl (cwV 1 hts (bz_gV wd_20_16 wd_20_17 wd_20_18 wd_1_5 wd_20_19) rfl rfl rfl (by decide +kernel) ⟨Nat.le_of_ble_eq_true rfl, Nat.le_of_ble_eq_true rfl⟩) rfl hl.1 rfl (by decide) ⟨Nat.zero_le _, Nat.zero_le _⟩ dX7_startHeat_14 rfl (fun H locs h => ?_)
    exact bz_iret C h hlocks hr hF dX7_startHeat_17
  · have hF := it_f hF c3
    refine lv_iconst (v := (-1)) hx hb dX7_startHeat_8 (by decide) ?_
    refine lv_goto (tgt := 17) hx hb dX7_startHeat_9 (by decide) ?_
    exact bz_iret C h hlocks hr hF dX7_startHeat_17
set_option maxHeartbeats 4000000 in
set_option maxRecDepth 100000 in
theorem L_X7_coolTime_L34 {p : Program} {l : Launch} {e : Env} {s : State} {m : MethodId} {args : Array Value} {below : List Frame} {meth : Method} {c : Code} {G : bz_G} (C : bz_C p s m c args cX7_coolTime 5 RX7 wz_X7_coolTime G) (hlocks : meth.locks = false) (hr : meth.sig.returnType = (some .int)) {a0 : Nat} {a2 : Int32} (ka0 : bz_k G a0 = (8, 0)) {k : Int32 → Int32 → bz_W → Option (Int32 × bz_W)} {res : Int32 × bz_W} : ∀ (n : Nat) (v3 : Int32) (v4 : Int32) (σ : bz_W) (H : Heap) (locs : List Loc) (ls : Array Slot), f_X7_coolTime_L34 a0 a2 k n v3 v4 σ = some res → bz_H G s σ H locs → lv_has ls 5 [(0, .ref a0), (2, .int a2), (3, .int v3), (4, .int v4)] → (∀ (w3 : Int32) (w4 : Int32) (σ : bz_W) (H : Heap) (locs : List Loc) (ls : Array Slot), k w3 w4 σ = some res → bz_H G s σ H locs → lv_has ls 5 [(2, .int a2), (3, .int w3), (4, .int w4)] → W p l e ({ frames := 4, cells := 0, slots := 0, locals := 89 } : Room) s m args below meth c H locs 0 0 (MQ below (bz_Qc G (some (.int res.1)) res.2) args s 0 0 (bz_A G)) (F0 m 67 ls [])) → W p l e ({ frames := 4, cells := 0, slots := 0, locals := 89 } : Room) s m args below meth c H locs 0 0 (MQ below (bz_Qc G (some (.int res.1)) res.2) args s 0 0 (bz_A G)) (F0 m 34 ls []) := by
  have hx := C.1
  have hb := C.2.1
  have hts := C.2.2.2.2.1
  intro n
  induction n with
  | zero =>
    intro v3 v4 σ H locs ls hF
    exact absurd hF (by simp [f_X7_coolTime_L34])
  | succ n ih =>
    intro v3 v4 σ H locs ls hF h hl hk
    rw [f_X7_coolTime_L34] at hF
    refine lv_iload hx hb dX7_coolTime_34 (lv_at hl 3 rfl) ?_
    refine lv_sipush (v := 999) hx hb dX7_coolTime_36 (by decide) ?_
    refine lv_icmp_ge (tgt := 67) hx hb dX7_coolTime_39 (by decide) (fun c11 => ?_) (fun c11 => ?_)
    · have hF := it_t hF c11
      exact hk _ _ _ H locs ls hF h (lv_sub hl [1, 2, 3] rfl)
    · have hF := it_f hF c11
      refine lv_iload_n hx hb dX7_coolTime_42 rfl (lv_at hl 2 rfl) ?_
      refine lv_iload_n hx hb dX7_coolTime_43 rfl (lv_at hl 1 rfl) ?_
      refine lv_icmp_le (tgt := 67) hx hb dX7_coolTime_44 (by decide) (fun c12 => ?_) (fun c12 => ?_)
      · have hF := it_t hF c12
        exact hk _ _ _ H locs ls hF h (lv_sub hl [1, 2, 3] rfl)
      · have hF := it_f hF c12
        refine lv_iload_n hx hb dX7_coolTime_47 rfl (lv_at hl 2 rfl) ?_
        refine lv_iload_n hx hb dX7_coolTime_48 rfl (lv_at hl 2 rfl) ?_
        refine lv_aload_n hx hb dX7_coolTime_49 rfl (lv_at hl 0 rfl) ?_
        refine lv_iconst (v := 0) hx hb dX7_coolTime_50 (by decide) ?_
        obtain ⟨r13, σ14, qr13, hF⟩ := bd_u hF
        refine bz_callV (rest := [.int v3, .int v3]) (st1 := [.int r13, .int v3, .int v3]) C h (As := [.int 0]) (o := some (.int r13)) (τ := σ14) (c_X7_rate (l := l) ka0 (res := (r13, σ14)) qr13) ka0 (by decide) (ci := 7) rfl (cwV 1 hts (bz_gV wd_21_19 wd_21_20 wd_21_21 wd_1_5 wd_21_22) rfl rfl rfl (by decide +kernel) ⟨Nat.le_of_ble_eq_true rfl, Nat.le_of_ble_eq_true rfl⟩) rfl hl.1 rfl (Nat.le_of_ble_eq_true rfl) ⟨Nat.zero_le _, Nat.zero_le _⟩ dX7_coolTime_51 rfl (fun H locs h => ?_)
        refine lv_imul hx hb dX7_coolTime_54 ?_
        refine lv_sipush (v := 1000) hx hb dX7_coolTime_55 (by decide) ?_
        refine lv_idiv hx hb dX7_coolTime_58 (by decide) ?_
        refine lv_isub hx hb dX7_coolTime_59 ?_
        refine lv_topi (fun x15 ex15 => ?_)
        have hF := lt_u hF x15 ex15
        refine lv_istore_n (lv' := [(3, .int x15), (0, .ref a0), (2, .int a2), (4, .int v4)]) hx hb dX7_coolTime_60 rfl hl (by decide) rfl (fun ls hl => ?_)
        obtain ⟨x16, ex16⟩ : ∃ y : Int32, y = v4 + 1 := ⟨_, rfl⟩
        have hF := lt_u hF x16 ex16
        refine lv_iinc (v := x16) (lv' := [(4, .int x16), (3, .int x15), (0, .ref a0), (2, .int a2)]) hx hb dX7_coolTime_61 hl (k := 3) rfl (by rw [ex16]; rfl) (by decide) rfl (fun ls hl => ?_)
        refine lv_goto (tgt := 34) hx hb dX7_coolTime_64 (by decide) ?_
        exact ih _ _ _ H locs ls hF h (lv_sub hl [2, 3, 1, 0] rfl) hk
set_option maxHeartbeats 4000000 in
set_option maxRecDepth 100000 in
theorem c_X7_coolTime {l : Launch} {G : bz_G} {σ : bz_W} {a0 : Nat} {x1_ : Int32} (ka0 : bz_k G a0 = (8, 0)) {res : Int32 × bz_W} (hF : f_X7_coolTime σ a0 x1_ = some res) : bz_M l yX7_coolTime wz_X7_coolTime 4 89 G σ [.ref a0, .int x1_] (some (.int res.1)) res.2 := by
  refine bz_mk (cc := cX7_coolTime) (maxL := 5) (ret := (some .int)) (own := RX7) (by decide) rfl rfl (Nat.le_of_ble_eq_true rfl) ?_
  intro p e s m args below meth c ls C hlocks hr h hl
  have hx := C.1
  have hb := C.2.1
  have hts := C.2.2.2.2.1
  have hl : lv_has ls 5 [(0, .ref a0), (1, .int x1_)] := hl
  obtain ⟨H, eH⟩ : ∃ y, y = s.heap := ⟨_, rfl⟩
  obtain ⟨locs, el⟩ : ∃ y : List Loc, y = [] := ⟨_, rfl⟩
  rw [← el, ← eH] at h ⊢
  unfold f_X7_coolTime at hF
  refine lv_aload_n hx hb dX7_coolTime_0 rfl (lv_at hl 0 rfl) ?_
  refine lv_iload_n hx hb dX7_coolTime_1 rfl (lv_at hl 1 rfl) ?_
  obtain ⟨r1, σ2, qr1, hF⟩ := bd_u hF
  refine bz_callV (rest := []) (st1 := [.int r1]) C h (As := [.int x1_]) (o := some (.int r1)) (τ := σ2) (c_X7_noMotor (l := l) ka0 (res := (r1, σ2)) qr1) ka0 (by decide) (ci := 7) rfl (cwV 1 hts (bz_gV wd_9_11 wd_9_12 wd_9_13 wd_1_5 wd_9_14) rfl rfl rfl (by decide +kernel) ⟨Nat.le_of_ble_eq_true rfl, Nat.le_of_ble_eq_true rfl⟩) rfl hl.1 rfl (by decide) ⟨Nat.zero_le _, Nat.zero_le _⟩ dX7_coolTime_2 rfl (fun H locs h => ?_)
  refine lv_if_eq (tgt := 10) hx hb dX7_coolTime_5 (by decide) (fun c3 => ?_) (fun c3 => ?_)
  · have hF := it_t hF c3
    refine lv_aload_n hx hb dX7_coolTime_10 rfl (lv_at hl 0 rfl) ?_
    refine lv_iload_n hx hb dX7_coolTime_11 rfl (lv_at hl 1 rfl) ?_
    refine lv_iconst (v := 3) hx hb dX7_coolTime_12 (by decide) ?_
    obtain ⟨r4, σ5, qr4, hF⟩ := bd_u hF
    refine bz_callV (rest := []) (st1 := [.int r4]) C h (As := [.int x1_, .int 3]) (o := some (.int r4)) (τ := σ5) (c_X7_of (l := l) ka0 (res := (r4, σ5)) qr4) ka0 (by decide) (ci := 7) rfl (cwV 2 hts (bz_gV wd_9_15 wd_9_16 wd_9_17 wd_1_5 wd_9_18) rfl rfl rfl (by decide +kernel) ⟨Nat.le_of_ble_eq_true rfl, Nat.le_of_ble_eq_true rfl⟩) rfl hl.1 rfl (by decide) ⟨Nat.zero_le _, Nat.zero_le _⟩ dX7_coolTime_13 rfl (fun H locs h => ?_)
    refine lv_aload_n hx hb dX7_coolTime_16 rfl (lv_at hl 0 rfl) ?_
    refine lv_iload_n hx hb dX7_coolTime_17 rfl (lv_at hl 1 rfl) ?_
    obtain ⟨r6, σ7, qr6, hF⟩ := bd_u hF
    refine bz_callV (rest := [.int r4]) (st1 := [.int r6, .int r4]) C h (As := [.int x1_]) (o := some (.int r6)) (τ := σ7) (c_X7_needed (l := l) ka0 (res := (r6, σ7)) qr6) ka0 (by decide) (ci := 7) rfl (cwV 1 hts (bz_gV wd_20_16 wd_20_17 wd_20_18 wd_1_5 wd_20_19) rfl rfl rfl (by decide +kernel) ⟨Nat.le_of_ble_eq_true rfl, Nat.le_of_ble_eq_true rfl⟩) rfl hl.1 rfl (Nat.le_of_ble_eq_true rfl) ⟨Nat.zero_le _, Nat.zero_le _⟩ dX7_coolTime_18 rfl (fun H locs h => ?_)
    refine lv_isub hx hb dX7_coolTime_21 ?_
    refine lv_topi (fun x8 ex8 => ?_)
    have hF := lt_u hF x8 ex8
    refine lv_istore_n (lv' := [(2, .int x8), (0, .ref a0), (1, .int x1_)]) hx hb dX7_coolTime_22 rfl hl (by decide) rfl (fun ls hl => ?_)
    refine lv_aload_n hx hb dX7_coolTime_23 rfl (lv_at hl 1 rfl) ?_
    refine lv_iload_n hx hb dX7_coolTime_24 rfl (lv_at hl 2 rfl) ?_
    refine lv_bipush (v := 6) hx hb dX7_coolTime_25 (by decide) ?_
    obtain ⟨r9, σ10, qr9, hF⟩ := bd_u hF
    refine bz_callV (rest := []) (st1 := [.int r9]) C h (As := [.int x1_, .int 6]) (o := some (.int r9)) (τ := σ10) (c_X7_of (l := l) ka0 (res := (r9, σ10)) qr9) ka0 (by decide) (ci := 7) rfl (cwV 2 hts (bz_gV wd_9_15 wd_9_16 wd_9_17 wd_1_5 wd_9_18) rfl rfl rfl (by decide +kernel) ⟨Nat.le_of_ble_eq_true rfl, Nat.le_of_ble_eq_true rfl⟩) rfl hl.1 rfl (by decide) ⟨Nat.zero_le _, Nat.zero_le _⟩ dX7_coolTime_27 rfl (fun H locs h => ?_)
    refine lv_istore_n (lv' := [(3, .int r9), (2, .int x8), (0, .ref a0), (1, .int x1_)]) hx hb dX7_coolTime_30 rfl hl (by decide) rfl (fun ls hl => ?_)
    refine lv_iconst (v := 0) hx hb dX7_coolTime_31 (by decide) ?_
    refine lv_istore (lv' := [(4, .int 0), (3, .int r9), (2, .int x8), (0, .ref a0), (1, .int x1_)]) hx hb dX7_coolTime_32 hl (by decide) rfl (fun ls hl => ?_)
    refine L_X7_coolTime_L34 C hlocks hr ka0 _ _ _ _ H locs ls hF h (lv_sub hl [3, 2, 1, 0] rfl) ?_
    intro x17 x18 σ19 H locs ls hF h hl
    refine lv_iload_n hx hb dX7_coolTime_67 rfl (lv_at hl 1 rfl) ?_
    refine lv_iload_n hx hb dX7_coolTime_68 rfl (lv_at hl 0 rfl) ?_
    refine lv_icmp_le (tgt := 77) hx hb dX7_coolTime_69 (by decide) (fun c20 => ?_) (fun c20 => ?_)
    · have hF := it_t hF c20
      refine lv_iload hx hb dX7_coolTime_77 (lv_at hl 2 rfl) ?_
      exact bz_iret C h hlocks hr hF dX7_coolTime_79
    · have hF := it_f hF c20
      refine lv_bipush (v := (-4)) hx hb dX7_coolTime_72 (by decide) ?_
      refine lv_goto (tgt := 79) hx hb dX7_coolTime_74 (by decide) ?_
      exact bz_iret C h hlocks hr hF dX7_coolTime_79
  · have hF := it_f hF c3
    refine lv_iconst (v := (-1)) hx hb dX7_coolTime_8 (by decide) ?_
    exact bz_iret C h hlocks hr hF dX7_coolTime_9
set_option maxHeartbeats 4000000 in
set_option maxRecDepth 100000 in
theorem L_X7_runTime_L20 {p : Program} {l : Launch} {e : Env} {s : State} {m : MethodId} {args : Array Value} {below : List Frame} {meth : Method} {c : Code} {G : bz_G} (C : bz_C p s m c args cX7_runTime 4 RX7 wz_X7_runTime G) (hlocks : meth.locks = false) (hr : meth.sig.returnType = (some .int)) {a0 : Nat} {a1 : Int32} (ka0 : bz_k G a0 = (8, 0)) {k : bz_W → Option (Int32 × bz_W)} {res : Int32 × bz_W} : ∀ (n : Nat) (v2 : Int32) (v3 : Int32) (σ : bz_W) (H : Heap) (locs : List Loc) (ls : Array Slot), f_X7_runTime_L20 a0 a1 k n v2 v3 σ = some res → bz_H G s σ H locs → lv_has ls 4 [(0, .ref a0), (1, .int a1), (2, .int v2), (3, .int v3)] → (∀ (σ : bz_W) (H : Heap) (locs : List Loc) (ls : Array Slot), k σ = some res → bz_H G s σ H locs → lv_has ls 4 [] → W p l e ({ frames := 2, cells := 0, slots := 0, locals := 43 } : Room) s m args below meth c H locs 0 0 (MQ below (bz_Qc G (some (.int res.1)) res.2) args s 0 0 (bz_A G)) (F0 m 78 ls [])) → W p l e ({ frames := 2, cells := 0, slots := 0, locals := 43 } : Room) s m args below meth c H locs 0 0 (MQ below (bz_Qc G (some (.int res.1)) res.2) args s 0 0 (bz_A G)) (F0 m 20 ls []) := by
  have hx := C.1
  have hb := C.2.1
  have hts := C.2.2.2.2.1
  intro n
  induction n with
  | zero =>
    intro v2 v3 σ H locs ls hF
    exact absurd hF (by simp [f_X7_runTime_L20])
  | succ n ih =>
    intro v2 v3 σ H locs ls hF h hl hk
    rw [f_X7_runTime_L20] at hF
    refine lv_iload_n hx hb dX7_runTime_20 rfl (lv_at hl 3 rfl) ?_
    refine lv_sipush (v := 999) hx hb dX7_runTime_21 (by decide) ?_
    refine lv_icmp_gt (tgt := 78) hx hb dX7_runTime_24 (by decide) (fun c6 => ?_) (fun c6 => ?_)
    · have hF := it_t hF c6
      exact hk _ H locs ls hF h (lv_sub hl [] rfl)
    · have hF := it_f hF c6
      refine lv_iload_n hx hb dX7_runTime_27 rfl (lv_at hl 2 rfl) ?_
      refine lv_aload_n hx hb dX7_runTime_28 rfl (lv_at hl 0 rfl) ?_
      refine lv_iload_n hx hb dX7_runTime_29 rfl (lv_at hl 1 rfl) ?_
      refine lv_iconst (v := 0) hx hb dX7_runTime_30 (by decide) ?_
      obtain ⟨r7, σ8, qr7, hF⟩ := bd_u hF
      refine bz_callV (rest := [.int v2]) (st1 := [.int r7, .int v2]) C h (As := [.int a1, .int 0]) (o := some (.int r7)) (τ := σ8) (c_X7_of (l := l) ka0 (res := (r7, σ8)) qr7) ka0 (by decide) (ci := 7) rfl (cwV 2 hts (bz_gV wd_9_15 wd_9_16 wd_9_17 wd_1_5 wd_9_18) rfl rfl rfl (by decide +kernel) ⟨Nat.le_of_ble_eq_true rfl, Nat.le_of_ble_eq_true rfl⟩) rfl hl.1 rfl (Nat.le_of_ble_eq_true rfl) ⟨Nat.zero_le _, Nat.zero_le _⟩ dX7_runTime_31 rfl (fun H locs h => ?_)
      refine lv_aload_n hx hb dX7_runTime_34 rfl (lv_at hl 0 rfl) ?_
      refine lv_iload_n hx hb dX7_runTime_35 rfl (lv_at hl 1 rfl) ?_
      refine lv_iconst (v := 0) hx hb dX7_runTime_36 (by decide) ?_
      obtain ⟨r9, σ10, qr9, hF⟩ := bd_u hF
      refine bz_callV (rest := [.int r7, .int v2]) (st1 := [.int r9, .int r7, .int v2]) C h (As := [.int a1, .int 0]) (o := some (.int r9)) (τ := σ10) (c_X7_of (l := l) ka0 (res := (r9, σ10)) qr9) ka0 (by decide) (ci := 7) rfl (cwV 2 hts (bz_gV wd_9_15 wd_9_16 wd_9_17 wd_1_5 wd_9_18) rfl rfl rfl (by decide +kernel) ⟨Nat.le_of_ble_eq_true rfl, Nat.le_of_ble_eq_true rfl⟩) rfl hl.1 rfl (Nat.le_of_ble_eq_true rfl) ⟨Nat.zero_le _, Nat.zero_le _⟩ dX7_runTime_37 rfl (fun H locs h => ?_)
      refine lv_imul hx hb dX7_runTime_40 ?_
      refine lv_bipush (v := 10) hx hb dX7_runTime_41 (by decide) ?_
      refine lv_idiv hx hb dX7_runTime_43 (by decide) ?_
      refine lv_iadd hx hb dX7_runTime_44 ?_
      refine lv_topi (fun x11 ex11 => ?_)
      have hF := lt_u hF x11 ex11
      refine lv_istore_n (lv' := [(2, .int x11), (0, .ref a0), (1, .int a1), (3, .int v3)]) hx hb dX7_runTime_45 rfl hl (by decide) rfl (fun ls hl => ?_)
      refine lv_iload_n hx hb dX7_runTime_46 rfl (lv_at hl 0 rfl) ?_
      refine lv_iload_n hx hb dX7_runTime_47 rfl (lv_at hl 0 rfl) ?_
      refine lv_aload_n hx hb dX7_runTime_48 rfl (lv_at hl 1 rfl) ?_
      refine lv_iconst (v := 1) hx hb dX7_runTime_49 (by decide) ?_
      obtain ⟨r12, σ13, qr12, hF⟩ := bd_u hF
      refine bz_callV (rest := [.int x11, .int x11]) (st1 := [.int r12, .int x11, .int x11]) C h (As := [.int 1]) (o := some (.int r12)) (τ := σ13) (c_X7_rate (l := l) ka0 (res := (r12, σ13)) qr12) ka0 (by decide) (ci := 7) rfl (cwV 1 hts (bz_gV wd_21_19 wd_21_20 wd_21_21 wd_1_5 wd_21_22) rfl rfl rfl (by decide +kernel) ⟨Nat.le_of_ble_eq_true rfl, Nat.le_of_ble_eq_true rfl⟩) rfl hl.1 rfl (Nat.le_of_ble_eq_true rfl) ⟨Nat.zero_le _, Nat.zero_le _⟩ dX7_runTime_50 rfl (fun H locs h => ?_)
      refine lv_imul hx hb dX7_runTime_53 ?_
      refine lv_sipush (v := 1000) hx hb dX7_runTime_54 (by decide) ?_
      refine lv_idiv hx hb dX7_runTime_57 (by decide) ?_
      refine lv_isub hx hb dX7_runTime_58 ?_
      refine lv_topi (fun x14 ex14 => ?_)
      have hF := lt_u hF x14 ex14
      refine lv_istore_n (lv' := [(2, .int x14), (0, .ref a0), (1, .int a1), (3, .int v3)]) hx hb dX7_runTime_59 rfl hl (by decide) rfl (fun ls hl => ?_)
      refine lv_iload_n hx hb dX7_runTime_60 rfl (lv_at hl 0 rfl) ?_
      refine lv_aload_n hx hb dX7_runTime_61 rfl (lv_at hl 1 rfl) ?_
      refine lv_iload_n hx hb dX7_runTime_62 rfl (lv_at hl 2 rfl) ?_
      refine lv_iconst (v := 3) hx hb dX7_runTime_63 (by decide) ?_
      obtain ⟨r15, σ16, qr15, hF⟩ := bd_u hF
      refine bz_callV (rest := [.int x14]) (st1 := [.int r15, .int x14]) C h (As := [.int a1, .int 3]) (o := some (.int r15)) (τ := σ16) (c_X7_of (l := l) ka0 (res := (r15, σ16)) qr15) ka0 (by decide) (ci := 7) rfl (cwV 2 hts (bz_gV wd_9_15 wd_9_16 wd_9_17 wd_1_5 wd_9_18) rfl rfl rfl (by decide +kernel) ⟨Nat.le_of_ble_eq_true rfl, Nat.le_of_ble_eq_true rfl⟩) rfl hl.1 rfl (Nat.le_of_ble_eq_true rfl) ⟨Nat.zero_le _, Nat.zero_le _⟩ dX7_runTime_64 rfl (fun H locs h => ?_)
      refine lv_icmp_le (tgt := 72) hx hb dX7_runTime_67 (by decide) (fun c17 => ?_) (fun c17 => ?_)
      · have hF := it_t hF c17
        obtain ⟨x18, ex18⟩ : ∃ y : Int32, y = v3 + 1 := ⟨_, rfl⟩
        have hF := lt_u hF x18 ex18
        refine lv_iinc (v := x18) (lv' := [(3, .int x18), (2, .int x14), (0, .ref a0), (1, .int a1)]) hx hb dX7_runTime_72 hl (k := 3) rfl (by rw [ex18]; rfl) (by decide) rfl (fun ls hl => ?_)
        refine lv_goto (tgt := 20) hx hb dX7_runTime_75 (by decide) ?_
        exact ih _ _ _ H locs ls hF h (lv_sub hl [2, 3, 1, 0] rfl) hk
      · have hF := it_f hF c17
        refine lv_iload_n hx hb dX7_runTime_70 rfl (lv_at hl 3 rfl) ?_
        exact bz_iret C h hlocks hr hF dX7_runTime_71
set_option maxHeartbeats 4000000 in
set_option maxRecDepth 100000 in
theorem c_X7_runTime {l : Launch} {G : bz_G} {σ : bz_W} {a0 : Nat} {x1_ : Int32} (ka0 : bz_k G a0 = (8, 0)) {res : Int32 × bz_W} (hF : f_X7_runTime σ a0 x1_ = some res) : bz_M l yX7_runTime wz_X7_runTime 2 43 G σ [.ref a0, .int x1_] (some (.int res.1)) res.2 := by
  refine bz_mk (cc := cX7_runTime) (maxL := 4) (ret := (some .int)) (own := RX7) (by decide) rfl rfl (Nat.le_of_ble_eq_true rfl) ?_
  intro p e s m args below meth c ls C hlocks hr h hl
  have hx := C.1
  have hb := C.2.1
  have hts := C.2.2.2.2.1
  have hl : lv_has ls 4 [(0, .ref a0), (1, .int x1_)] := hl
  obtain ⟨H, eH⟩ : ∃ y, y = s.heap := ⟨_, rfl⟩
  obtain ⟨locs, el⟩ : ∃ y : List Loc, y = [] := ⟨_, rfl⟩
  rw [← el, ← eH] at h ⊢
  unfold f_X7_runTime at hF
  refine lv_aload_n hx hb dX7_runTime_0 rfl (lv_at hl 0 rfl) ?_
  refine lv_iload_n hx hb dX7_runTime_1 rfl (lv_at hl 1 rfl) ?_
  obtain ⟨r1, σ2, qr1, hF⟩ := bd_u hF
  refine bz_callV (rest := []) (st1 := [.int r1]) C h (As := [.int x1_]) (o := some (.int r1)) (τ := σ2) (c_X7_noMotor (l := l) ka0 (res := (r1, σ2)) qr1) ka0 (by decide) (ci := 7) rfl (cwV 1 hts (bz_gV wd_9_11 wd_9_12 wd_9_13 wd_1_5 wd_9_14) rfl rfl rfl (by decide +kernel) ⟨Nat.le_of_ble_eq_true rfl, Nat.le_of_ble_eq_true rfl⟩) rfl hl.1 rfl (by decide) ⟨Nat.zero_le _, Nat.zero_le _⟩ dX7_runTime_2 rfl (fun H locs h => ?_)
  refine lv_if_eq (tgt := 10) hx hb dX7_runTime_5 (by decide) (fun c3 => ?_) (fun c3 => ?_)
  · have hF := it_t hF c3
    refine lv_aload_n hx hb dX7_runTime_10 rfl (lv_at hl 0 rfl) ?_
    refine lv_iload_n hx hb dX7_runTime_11 rfl (lv_at hl 1 rfl) ?_
    refine lv_bipush (v := 6) hx hb dX7_runTime_12 (by decide) ?_
    obtain ⟨r4, σ5, qr4, hF⟩ := bd_u hF
    refine bz_callV (rest := []) (st1 := [.int r4]) C h (As := [.int x1_, .int 6]) (o := some (.int r4)) (τ := σ5) (c_X7_of (l := l) ka0 (res := (r4, σ5)) qr4) ka0 (by decide) (ci := 7) rfl (cwV 2 hts (bz_gV wd_9_15 wd_9_16 wd_9_17 wd_1_5 wd_9_18) rfl rfl rfl (by decide +kernel) ⟨Nat.le_of_ble_eq_true rfl, Nat.le_of_ble_eq_true rfl⟩) rfl hl.1 rfl (by decide) ⟨Nat.zero_le _, Nat.zero_le _⟩ dX7_runTime_14 rfl (fun H locs h => ?_)
    refine lv_istore_n (lv' := [(2, .int r4), (0, .ref a0), (1, .int x1_)]) hx hb dX7_runTime_17 rfl hl (by decide) rfl (fun ls hl => ?_)
    refine lv_iconst (v := 1) hx hb dX7_runTime_18 (by decide) ?_
    refine lv_istore_n (lv' := [(3, .int 1), (2, .int r4), (0, .ref a0), (1, .int x1_)]) hx hb dX7_runTime_19 rfl hl (by decide) rfl (fun ls hl => ?_)
    refine L_X7_runTime_L20 C hlocks hr ka0 _ _ _ _ H locs ls hF h (lv_sub hl [2, 3, 1, 0] rfl) ?_
    intro σ19 H locs ls hF h hl
    refine lv_bipush (v := (-4)) hx hb dX7_runTime_78 (by decide) ?_
    exact bz_iret C h hlocks hr hF dX7_runTime_80
  · have hF := it_f hF c3
    refine lv_iconst (v := (-1)) hx hb dX7_runTime_8 (by decide) ?_
    exact bz_iret C h hlocks hr hF dX7_runTime_9
set_option maxHeartbeats 4000000 in
set_option maxRecDepth 100000 in
theorem L_X7_longestRamp_L13 {p : Program} {l : Launch} {e : Env} {s : State} {m : MethodId} {args : Array Value} {below : List Frame} {meth : Method} {c : Code} {G : bz_G} (C : bz_C p s m c args cX7_longestRamp 3 RX7 wz_X7_longestRamp G) (hlocks : meth.locks = false) (hr : meth.sig.returnType = (some .int)) {a0 : Nat} {a1 : Int32} (ka0 : bz_k G a0 = (8, 0)) {k : bz_W → Option (Int32 × bz_W)} {res : Int32 × bz_W} : ∀ (n : Nat) (v2 : Int32) (σ : bz_W) (H : Heap) (locs : List Loc) (ls : Array Slot), f_X7_longestRamp_L13 a0 a1 k n v2 σ = some res → bz_H G s σ H locs → lv_has ls 3 [(0, .ref a0), (1, .int a1), (2, .int v2)] → (∀ (σ : bz_W) (H : Heap) (locs : List Loc) (ls : Array Slot), k σ = some res → bz_H G s σ H locs → lv_has ls 3 [] → W p l e ({ frames := 3, cells := 0, slots := 0, locals := 68 } : Room) s m args below meth c H locs 0 0 (MQ below (bz_Qc G (some (.int res.1)) res.2) args s 0 0 (bz_A G)) (F0 m 40 ls [])) → W p l e ({ frames := 3, cells := 0, slots := 0, locals := 68 } : Room) s m args below meth c H locs 0 0 (MQ below (bz_Qc G (some (.int res.1)) res.2) args s 0 0 (bz_A G)) (F0 m 13 ls []) := by
  have hx := C.1
  have hb := C.2.1
  have hts := C.2.2.2.2.1
  intro n
  induction n with
  | zero =>
    intro v2 σ H locs ls hF
    exact absurd hF (by simp [f_X7_longestRamp_L13])
  | succ n ih =>
    intro v2 σ H locs ls hF h hl hk
    rw [f_X7_longestRamp_L13] at hF
    refine lv_iload_n hx hb dX7_longestRamp_13 rfl (lv_at hl 2 rfl) ?_
    refine lv_iconst (v := 2) hx hb dX7_longestRamp_14 (by decide) ?_
    refine lv_icmp_lt (tgt := 40) hx hb dX7_longestRamp_15 (by decide) (fun c4 => ?_) (fun c4 => ?_)
    · have hF := it_t hF c4
      exact hk _ H locs ls hF h (lv_sub hl [] rfl)
    · have hF := it_f hF c4
      refine lv_aload_n hx hb dX7_longestRamp_18 rfl (lv_at hl 0 rfl) ?_
      refine lv_iload_n hx hb dX7_longestRamp_19 rfl (lv_at hl 1 rfl) ?_
      refine lv_iload_n hx hb dX7_longestRamp_20 rfl (lv_at hl 2 rfl) ?_
      obtain ⟨r5, σ6, qr5, hF⟩ := bd_u hF
      refine bz_callV (rest := []) (st1 := [.int r5]) C h (As := [.int a1, .int v2]) (o := some (.int r5)) (τ := σ6) (c_X7_heatOfRamp (l := l) ka0 (res := (r5, σ6)) qr5) ka0 (by decide) (ci := 7) rfl (cwV 2 hts (bz_gV wd_20_20 wd_20_21 wd_20_22 wd_1_5 wd_20_23) rfl rfl rfl (by decide +kernel) ⟨Nat.le_of_ble_eq_true rfl, Nat.le_of_ble_eq_true rfl⟩) rfl hl.1 rfl (by decide) ⟨Nat.zero_le _, Nat.zero_le _⟩ dX7_longestRamp_21 rfl (fun H locs h => ?_)
      refine lv_aload_n hx hb dX7_longestRamp_24 rfl (lv_at hl 0 rfl) ?_
      refine lv_iload_n hx hb dX7_longestRamp_25 rfl (lv_at hl 1 rfl) ?_
      obtain ⟨r7, σ8, qr7, hF⟩ := bd_u hF
      refine bz_callV (rest := [.int r5]) (st1 := [.int r7, .int r5]) C h (As := [.int a1]) (o := some (.int r7)) (τ := σ8) (c_X7_credit (l := l) ka0 (res := (r7, σ8)) qr7) ka0 (by decide) (ci := 7) rfl (cwV 1 hts (bz_gV wd_20_12 wd_20_13 wd_20_14 wd_1_5 wd_20_15) rfl rfl rfl (by decide +kernel) ⟨Nat.le_of_ble_eq_true rfl, Nat.le_of_ble_eq_true rfl⟩) rfl hl.1 rfl (Nat.le_of_ble_eq_true rfl) ⟨Nat.zero_le _, Nat.zero_le _⟩ dX7_longestRamp_26 rfl (fun H locs h => ?_)
      refine lv_icmp_gt (tgt := 34) hx hb dX7_longestRamp_29 (by decide) (fun c9 => ?_) (fun c9 => ?_)
      · have hF := it_t hF c9
        obtain ⟨x10, ex10⟩ : ∃ y : Int32, y = v2 + (-1) := ⟨_, rfl⟩
        have hF := lt_u hF x10 ex10
        refine lv_iinc (v := x10) (lv' := [(2, .int x10), (0, .ref a0), (1, .int a1)]) hx hb dX7_longestRamp_34 hl (k := 2) rfl (by rw [ex10]; rfl) (by decide) rfl (fun ls hl => ?_)
        refine lv_goto (tgt := 13) hx hb dX7_longestRamp_37 (by decide) ?_
        exact ih _ _ H locs ls hF h (lv_sub hl [1, 2, 0] rfl) hk
      · have hF := it_f hF c9
        refine lv_iload_n hx hb dX7_longestRamp_32 rfl (lv_at hl 2 rfl) ?_
        exact bz_iret C h hlocks hr hF dX7_longestRamp_33
set_option maxHeartbeats 4000000 in
set_option maxRecDepth 100000 in
theorem c_X7_longestRamp {l : Launch} {G : bz_G} {σ : bz_W} {a0 : Nat} {x1_ : Int32} (ka0 : bz_k G a0 = (8, 0)) {res : Int32 × bz_W} (hF : f_X7_longestRamp σ a0 x1_ = some res) : bz_M l yX7_longestRamp wz_X7_longestRamp 3 68 G σ [.ref a0, .int x1_] (some (.int res.1)) res.2 := by
  refine bz_mk (cc := cX7_longestRamp) (maxL := 3) (ret := (some .int)) (own := RX7) (by decide) rfl rfl (Nat.le_of_ble_eq_true rfl) ?_
  intro p e s m args below meth c ls C hlocks hr h hl
  have hx := C.1
  have hb := C.2.1
  have hts := C.2.2.2.2.1
  have hl : lv_has ls 3 [(0, .ref a0), (1, .int x1_)] := hl
  obtain ⟨H, eH⟩ : ∃ y, y = s.heap := ⟨_, rfl⟩
  obtain ⟨locs, el⟩ : ∃ y : List Loc, y = [] := ⟨_, rfl⟩
  rw [← el, ← eH] at h ⊢
  unfold f_X7_longestRamp at hF
  refine lv_aload_n hx hb dX7_longestRamp_0 rfl (lv_at hl 0 rfl) ?_
  refine lv_iload_n hx hb dX7_longestRamp_1 rfl (lv_at hl 1 rfl) ?_
  obtain ⟨r1, σ2, qr1, hF⟩ := bd_u hF
  refine bz_callV (rest := []) (st1 := [.int r1]) C h (As := [.int x1_]) (o := some (.int r1)) (τ := σ2) (c_X7_noMotor (l := l) ka0 (res := (r1, σ2)) qr1) ka0 (by decide) (ci := 7) rfl (cwV 1 hts (bz_gV wd_9_11 wd_9_12 wd_9_13 wd_1_5 wd_9_14) rfl rfl rfl (by decide +kernel) ⟨Nat.le_of_ble_eq_true rfl, Nat.le_of_ble_eq_true rfl⟩) rfl hl.1 rfl (by decide) ⟨Nat.zero_le _, Nat.zero_le _⟩ dX7_longestRamp_2 rfl (fun H locs h => ?_)
  refine lv_if_eq (tgt := 10) hx hb dX7_longestRamp_5 (by decide) (fun c3 => ?_) (fun c3 => ?_)
  · have hF := it_t hF c3
    refine lv_bipush (v := 30) hx hb dX7_longestRamp_10 (by decide) ?_
    refine lv_istore_n (lv' := [(2, .int 30), (0, .ref a0), (1, .int x1_)]) hx hb dX7_longestRamp_12 rfl hl (by decide) rfl (fun ls hl => ?_)
    refine L_X7_longestRamp_L13 C hlocks hr ka0 _ _ _ H locs ls hF h (lv_sub hl [1, 2, 0] rfl) ?_
    intro σ11 H locs ls hF h hl
    refine lv_bipush (v := (-4)) hx hb dX7_longestRamp_40 (by decide) ?_
    exact bz_iret C h hlocks hr hF dX7_longestRamp_42
  · have hF := it_f hF c3
    refine lv_iconst (v := (-1)) hx hb dX7_longestRamp_8 (by decide) ?_
    exact bz_iret C h hlocks hr hF dX7_longestRamp_9
set_option maxHeartbeats 4000000 in
set_option maxRecDepth 100000 in
theorem L_X7_inMode_L4 {p : Program} {l : Launch} {e : Env} {s : State} {m : MethodId} {args : Array Value} {below : List Frame} {meth : Method} {c : Code} {G : bz_G} (C : bz_C p s m c args cX7_inMode 4 RX7 wz_X7_inMode G) (hlocks : meth.locks = false) (hr : meth.sig.returnType = (some .int)) {a0 : Nat} {a1 : Int32} (ka0 : bz_k G a0 = (8, 0)) {k : Int32 → bz_W → Option (Int32 × bz_W)} {res : Int32 × bz_W} : ∀ (n : Nat) (v2 : Int32) (v3 : Int32) (σ : bz_W) (H : Heap) (locs : List Loc) (ls : Array Slot), f_X7_inMode_L4 a0 a1 k n v2 v3 σ = some res → bz_H G s σ H locs → lv_has ls 4 [(0, .ref a0), (1, .int a1), (2, .int v2), (3, .int v3)] → (∀ (w2 : Int32) (σ : bz_W) (H : Heap) (locs : List Loc) (ls : Array Slot), k w2 σ = some res → bz_H G s σ H locs → lv_has ls 4 [(2, .int w2)] → W p l e ({ frames := 1, cells := 0, slots := 0, locals := 22 } : Room) s m args below meth c H locs 0 0 (MQ below (bz_Qc G (some (.int res.1)) res.2) args s 0 0 (bz_A G)) (F0 m 38 ls [])) → W p l e ({ frames := 1, cells := 0, slots := 0, locals := 22 } : Room) s m args below meth c H locs 0 0 (MQ below (bz_Qc G (some (.int res.1)) res.2) args s 0 0 (bz_A G)) (F0 m 4 ls []) := by
  have hx := C.1
  have hb := C.2.1
  have hts := C.2.2.2.2.1
  intro n
  induction n with
  | zero =>
    intro v2 v3 σ H locs ls hF
    exact absurd hF (by simp [f_X7_inMode_L4])
  | succ n ih =>
    intro v2 v3 σ H locs ls hF h hl hk
    rw [f_X7_inMode_L4] at hF
    refine lv_iload_n hx hb dX7_inMode_4 rfl (lv_at hl 3 rfl) ?_
    refine lv_aload_n hx hb dX7_inMode_5 rfl (lv_at hl 0 rfl) ?_
    refine gf_7_0 C h ka0 iz_X7 (List.mem_cons_of_mem _ wd_4_13) dX7_inMode_6 (fun k1 => ?_)
    refine lv_iconst (v := 0) hx hb dX7_inMode_9 (by decide) ?_
    refine bz_iald C h k1 (by decide) (kx := 0) (bz_cl 0 (by decide)) dX7_inMode_10 ?_
    refine lv_icmp_ge (tgt := 38) hx hb dX7_inMode_11 (by decide) (fun c2 => ?_) (fun c2 => ?_)
    · have hF := it_t hF c2
      exact hk _ _ H locs ls hF h (lv_sub hl [2] rfl)
    · have hF := it_f hF c2
      refine lv_iload_n hx hb dX7_inMode_14 rfl (lv_at hl 2 rfl) ?_
      refine lv_aload_n hx hb dX7_inMode_15 rfl (lv_at hl 0 rfl) ?_
      refine lv_iload_n hx hb dX7_inMode_16 rfl (lv_at hl 3 rfl) ?_
      refine lv_iconst (v := 5) hx hb dX7_inMode_17 (by decide) ?_
      obtain ⟨r3, σ4, qr3, hF⟩ := bd_u hF
      refine bz_callV (rest := [.int v2]) (st1 := [.int r3, .int v2]) C h (As := [.int v3, .int 5]) (o := some (.int r3)) (τ := σ4) (c_X7_of (l := l) ka0 (res := (r3, σ4)) qr3) ka0 (by decide) (ci := 7) rfl (cwV 2 hts (bz_gV wd_9_15 wd_9_16 wd_9_17 wd_1_5 wd_9_18) rfl rfl rfl (by decide +kernel) ⟨Nat.le_of_ble_eq_true rfl, Nat.le_of_ble_eq_true rfl⟩) rfl hl.1 rfl (Nat.le_of_ble_eq_true rfl) ⟨Nat.zero_le _, Nat.zero_le _⟩ dX7_inMode_18 rfl (fun H locs h => ?_)
      refine lv_iload_n hx hb dX7_inMode_21 rfl (lv_at hl 1 rfl) ?_
      obtain ⟨j7, ej7, hF⟩ := lt_j hF
      have hj7 : ∀ (y5 : Int32) (σ6 : bz_W) (H : Heap) (locs : List Loc) (ls : Array Slot), j7 y5 σ6 = some res → bz_H G s σ6 H locs → lv_has ls 4 [(0, .ref a0), (1, .int a1), (3, .int v3)] → W p l e ({ frames := 1, cells := 0, slots := 0, locals := 22 } : Room) s m args below meth c H locs 0 0 (MQ below (bz_Qc G (some (.int res.1)) res.2) args s 0 0 (bz_A G)) (F0 m 30 ls [.int y5, .int v2]) := by
          intro y5 σ6 H locs ls hF h hl
          subst ej7
          refine lv_iadd hx hb dX7_inMode_30 ?_
          refine lv_topi (fun x8 ex8 => ?_)
          have hF := lt_u hF x8 ex8
          refine lv_istore_n (lv' := [(2, .int x8), (0, .ref a0), (1, .int a1), (3, .int v3)]) hx hb dX7_inMode_31 rfl hl (by decide) rfl (fun ls hl => ?_)
          obtain ⟨x9, ex9⟩ : ∃ y : Int32, y = v3 + 1 := ⟨_, rfl⟩
          have hF := lt_u hF x9 ex9
          refine lv_iinc (v := x9) (lv' := [(3, .int x9), (2, .int x8), (0, .ref a0), (1, .int a1)]) hx hb dX7_inMode_32 hl (k := 3) rfl (by rw [ex9]; rfl) (by decide) rfl (fun ls hl => ?_)
          refine lv_goto (tgt := 4) hx hb dX7_inMode_35 (by decide) ?_
          exact ih _ _ _ H locs ls hF h (lv_sub hl [2, 3, 1, 0] rfl) hk
      refine lv_icmp_ne (tgt := 29) hx hb dX7_inMode_22 (by decide) (fun c10 => ?_) (fun c10 => ?_)
      · have hF := it_f hF c10
        refine lv_iconst (v := 0) hx hb dX7_inMode_29 (by decide) ?_
        exact hj7 _ _ H locs ls hF h (lv_sub hl [0, 1, 3] rfl)
      · have hF := it_t hF c10
        refine lv_iconst (v := 1) hx hb dX7_inMode_25 (by decide) ?_
        refine lv_goto (tgt := 30) hx hb dX7_inMode_26 (by decide) ?_
        exact hj7 _ _ H locs ls hF h (lv_sub hl [0, 1, 3] rfl)
set_option maxHeartbeats 4000000 in
set_option maxRecDepth 100000 in
theorem c_X7_inMode {l : Launch} {G : bz_G} {σ : bz_W} {a0 : Nat} {x1_ : Int32} (ka0 : bz_k G a0 = (8, 0)) {res : Int32 × bz_W} (hF : f_X7_inMode σ a0 x1_ = some res) : bz_M l yX7_inMode wz_X7_inMode 1 22 G σ [.ref a0, .int x1_] (some (.int res.1)) res.2 := by
  refine bz_mk (cc := cX7_inMode) (maxL := 4) (ret := (some .int)) (own := RX7) (by decide) rfl rfl (Nat.le_of_ble_eq_true rfl) ?_
  intro p e s m args below meth c ls C hlocks hr h hl
  have hx := C.1
  have hb := C.2.1
  have hts := C.2.2.2.2.1
  have hl : lv_has ls 4 [(0, .ref a0), (1, .int x1_)] := hl
  obtain ⟨H, eH⟩ : ∃ y, y = s.heap := ⟨_, rfl⟩
  obtain ⟨locs, el⟩ : ∃ y : List Loc, y = [] := ⟨_, rfl⟩
  rw [← el, ← eH] at h ⊢
  unfold f_X7_inMode at hF
  refine lv_iconst (v := 0) hx hb dX7_inMode_0 (by decide) ?_
  refine lv_istore_n (lv' := [(2, .int 0), (0, .ref a0), (1, .int x1_)]) hx hb dX7_inMode_1 rfl hl (by decide) rfl (fun ls hl => ?_)
  refine lv_iconst (v := 0) hx hb dX7_inMode_2 (by decide) ?_
  refine lv_istore_n (lv' := [(3, .int 0), (2, .int 0), (0, .ref a0), (1, .int x1_)]) hx hb dX7_inMode_3 rfl hl (by decide) rfl (fun ls hl => ?_)
  refine L_X7_inMode_L4 C hlocks hr ka0 _ _ _ _ H locs ls hF h (lv_sub hl [2, 3, 1, 0] rfl) ?_
  intro x11 σ12 H locs ls hF h hl
  refine lv_iload_n hx hb dX7_inMode_38 rfl (lv_at hl 0 rfl) ?_
  exact bz_iret C h hlocks hr hF dX7_inMode_39
set_option maxHeartbeats 4000000 in
set_option maxRecDepth 100000 in
theorem L_X7_sumOf_L4 {p : Program} {l : Launch} {e : Env} {s : State} {m : MethodId} {args : Array Value} {below : List Frame} {meth : Method} {c : Code} {G : bz_G} (C : bz_C p s m c args cX7_sumOf 4 RX7 wz_X7_sumOf G) (hlocks : meth.locks = false) (hr : meth.sig.returnType = (some .int)) {a0 : Nat} {a1 : Int32} (ka0 : bz_k G a0 = (8, 0)) {k : Int32 → bz_W → Option (Int32 × bz_W)} {res : Int32 × bz_W} : ∀ (n : Nat) (v2 : Int32) (v3 : Int32) (σ : bz_W) (H : Heap) (locs : List Loc) (ls : Array Slot), f_X7_sumOf_L4 a0 a1 k n v2 v3 σ = some res → bz_H G s σ H locs → lv_has ls 4 [(0, .ref a0), (1, .int a1), (2, .int v2), (3, .int v3)] → (∀ (w2 : Int32) (σ : bz_W) (H : Heap) (locs : List Loc) (ls : Array Slot), k w2 σ = some res → bz_H G s σ H locs → lv_has ls 4 [(2, .int w2)] → W p l e ({ frames := 1, cells := 0, slots := 0, locals := 22 } : Room) s m args below meth c H locs 0 0 (MQ below (bz_Qc G (some (.int res.1)) res.2) args s 0 0 (bz_A G)) (F0 m 29 ls [])) → W p l e ({ frames := 1, cells := 0, slots := 0, locals := 22 } : Room) s m args below meth c H locs 0 0 (MQ below (bz_Qc G (some (.int res.1)) res.2) args s 0 0 (bz_A G)) (F0 m 4 ls []) := by
  have hx := C.1
  have hb := C.2.1
  have hts := C.2.2.2.2.1
  intro n
  induction n with
  | zero =>
    intro v2 v3 σ H locs ls hF
    exact absurd hF (by simp [f_X7_sumOf_L4])
  | succ n ih =>
    intro v2 v3 σ H locs ls hF h hl hk
    rw [f_X7_sumOf_L4] at hF
    refine lv_iload_n hx hb dX7_sumOf_4 rfl (lv_at hl 3 rfl) ?_
    refine lv_aload_n hx hb dX7_sumOf_5 rfl (lv_at hl 0 rfl) ?_
    refine gf_7_0 C h ka0 iz_X7 (List.mem_cons_of_mem _ wd_4_13) dX7_sumOf_6 (fun k1 => ?_)
    refine lv_iconst (v := 0) hx hb dX7_sumOf_9 (by decide) ?_
    refine bz_iald C h k1 (by decide) (kx := 0) (bz_cl 0 (by decide)) dX7_sumOf_10 ?_
    refine lv_icmp_ge (tgt := 29) hx hb dX7_sumOf_11 (by decide) (fun c2 => ?_) (fun c2 => ?_)
    · have hF := it_t hF c2
      exact hk _ _ H locs ls hF h (lv_sub hl [2] rfl)
    · have hF := it_f hF c2
      refine lv_iload_n hx hb dX7_sumOf_14 rfl (lv_at hl 2 rfl) ?_
      refine lv_aload_n hx hb dX7_sumOf_15 rfl (lv_at hl 0 rfl) ?_
      refine lv_iload_n hx hb dX7_sumOf_16 rfl (lv_at hl 3 rfl) ?_
      refine lv_iload_n hx hb dX7_sumOf_17 rfl (lv_at hl 1 rfl) ?_
      obtain ⟨r3, σ4, qr3, hF⟩ := bd_u hF
      refine bz_callV (rest := [.int v2]) (st1 := [.int r3, .int v2]) C h (As := [.int v3, .int a1]) (o := some (.int r3)) (τ := σ4) (c_X7_of (l := l) ka0 (res := (r3, σ4)) qr3) ka0 (by decide) (ci := 7) rfl (cwV 2 hts (bz_gV wd_9_15 wd_9_16 wd_9_17 wd_1_5 wd_9_18) rfl rfl rfl (by decide +kernel) ⟨Nat.le_of_ble_eq_true rfl, Nat.le_of_ble_eq_true rfl⟩) rfl hl.1 rfl (Nat.le_of_ble_eq_true rfl) ⟨Nat.zero_le _, Nat.zero_le _⟩ dX7_sumOf_18 rfl (fun H locs h => ?_)
      refine lv_iadd hx hb dX7_sumOf_21 ?_
      refine lv_topi (fun x5 ex5 => ?_)
      have hF := lt_u hF x5 ex5
      refine lv_istore_n (lv' := [(2, .int x5), (0, .ref a0), (1, .int a1), (3, .int v3)]) hx hb dX7_sumOf_22 rfl hl (by decide) rfl (fun ls hl => ?_)
      obtain ⟨x6, ex6⟩ : ∃ y : Int32, y = v3 + 1 := ⟨_, rfl⟩
      have hF := lt_u hF x6 ex6
      refine lv_iinc (v := x6) (lv' := [(3, .int x6), (2, .int x5), (0, .ref a0), (1, .int a1)]) hx hb dX7_sumOf_23 hl (k := 3) rfl (by rw [ex6]; rfl) (by decide) rfl (fun ls hl => ?_)
      refine lv_goto (tgt := 4) hx hb dX7_sumOf_26 (by decide) ?_
      exact ih _ _ _ H locs ls hF h (lv_sub hl [2, 3, 1, 0] rfl) hk
set_option maxHeartbeats 4000000 in
set_option maxRecDepth 100000 in
theorem c_X7_sumOf {l : Launch} {G : bz_G} {σ : bz_W} {a0 : Nat} {x1_ : Int32} (ka0 : bz_k G a0 = (8, 0)) {res : Int32 × bz_W} (hF : f_X7_sumOf σ a0 x1_ = some res) : bz_M l yX7_sumOf wz_X7_sumOf 1 22 G σ [.ref a0, .int x1_] (some (.int res.1)) res.2 := by
  refine bz_mk (cc := cX7_sumOf) (maxL := 4) (ret := (some .int)) (own := RX7) (by decide) rfl rfl (Nat.le_of_ble_eq_true rfl) ?_
  intro p e s m args below meth c ls C hlocks hr h hl
  have hx := C.1
  have hb := C.2.1
  have hts := C.2.2.2.2.1
  have hl : lv_has ls 4 [(0, .ref a0), (1, .int x1_)] := hl
  obtain ⟨H, eH⟩ : ∃ y, y = s.heap := ⟨_, rfl⟩
  obtain ⟨locs, el⟩ : ∃ y : List Loc, y = [] := ⟨_, rfl⟩
  rw [← el, ← eH] at h ⊢
  unfold f_X7_sumOf at hF
  refine lv_iconst (v := 0) hx hb dX7_sumOf_0 (by decide) ?_
  refine lv_istore_n (lv' := [(2, .int 0), (0, .ref a0), (1, .int x1_)]) hx hb dX7_sumOf_1 rfl hl (by decide) rfl (fun ls hl => ?_)
  refine lv_iconst (v := 0) hx hb dX7_sumOf_2 (by decide) ?_
  refine lv_istore_n (lv' := [(3, .int 0), (2, .int 0), (0, .ref a0), (1, .int x1_)]) hx hb dX7_sumOf_3 rfl hl (by decide) rfl (fun ls hl => ?_)
  refine L_X7_sumOf_L4 C hlocks hr ka0 _ _ _ _ H locs ls hF h (lv_sub hl [2, 3, 1, 0] rfl) ?_
  intro x7 σ8 H locs ls hF h hl
  refine lv_iload_n hx hb dX7_sumOf_29 rfl (lv_at hl 0 rfl) ?_
  exact bz_iret C h hlocks hr hF dX7_sumOf_30
set_option maxHeartbeats 4000000 in
set_option maxRecDepth 100000 in
theorem L_X7_allDraw_L4 {p : Program} {l : Launch} {e : Env} {s : State} {m : MethodId} {args : Array Value} {below : List Frame} {meth : Method} {c : Code} {G : bz_G} (C : bz_C p s m c args cX7_allDraw 3 RX7 wz_X7_allDraw G) (hlocks : meth.locks = false) (hr : meth.sig.returnType = (some .int)) {a0 : Nat} (ka0 : bz_k G a0 = (8, 0)) {k : Int32 → bz_W → Option (Int32 × bz_W)} {res : Int32 × bz_W} : ∀ (n : Nat) (v1 : Int32) (v2 : Int32) (σ : bz_W) (H : Heap) (locs : List Loc) (ls : Array Slot), f_X7_allDraw_L4 a0 k n v1 v2 σ = some res → bz_H G s σ H locs → lv_has ls 3 [(0, .ref a0), (1, .int v1), (2, .int v2)] → (∀ (w1 : Int32) (σ : bz_W) (H : Heap) (locs : List Loc) (ls : Array Slot), k w1 σ = some res → bz_H G s σ H locs → lv_has ls 3 [(1, .int w1)] → W p l e ({ frames := 3, cells := 0, slots := 0, locals := 64 } : Room) s m args below meth c H locs 0 0 (MQ below (bz_Qc G (some (.int res.1)) res.2) args s 0 0 (bz_A G)) (F0 m 28 ls [])) → W p l e ({ frames := 3, cells := 0, slots := 0, locals := 64 } : Room) s m args below meth c H locs 0 0 (MQ below (bz_Qc G (some (.int res.1)) res.2) args s 0 0 (bz_A G)) (F0 m 4 ls []) := by
  have hx := C.1
  have hb := C.2.1
  have hts := C.2.2.2.2.1
  intro n
  induction n with
  | zero =>
    intro v1 v2 σ H locs ls hF
    exact absurd hF (by simp [f_X7_allDraw_L4])
  | succ n ih =>
    intro v1 v2 σ H locs ls hF h hl hk
    rw [f_X7_allDraw_L4] at hF
    refine lv_iload_n hx hb dX7_allDraw_4 rfl (lv_at hl 2 rfl) ?_
    refine lv_aload_n hx hb dX7_allDraw_5 rfl (lv_at hl 0 rfl) ?_
    refine gf_7_0 C h ka0 iz_X7 (List.mem_cons_of_mem _ wd_4_13) dX7_allDraw_6 (fun k1 => ?_)
    refine lv_iconst (v := 0) hx hb dX7_allDraw_9 (by decide) ?_
    refine bz_iald C h k1 (by decide) (kx := 0) (bz_cl 0 (by decide)) dX7_allDraw_10 ?_
    refine lv_icmp_ge (tgt := 28) hx hb dX7_allDraw_11 (by decide) (fun c2 => ?_) (fun c2 => ?_)
    · have hF := it_t hF c2
      exact hk _ _ H locs ls hF h (lv_sub hl [1] rfl)
    · have hF := it_f hF c2
      refine lv_iload_n hx hb dX7_allDraw_14 rfl (lv_at hl 1 rfl) ?_
      refine lv_aload_n hx hb dX7_allDraw_15 rfl (lv_at hl 0 rfl) ?_
      refine lv_iload_n hx hb dX7_allDraw_16 rfl (lv_at hl 2 rfl) ?_
      obtain ⟨r3, σ4, qr3, hF⟩ := bd_u hF
      refine bz_callV (rest := [.int v1]) (st1 := [.int r3, .int v1]) C h (As := [.int v2]) (o := some (.int r3)) (τ := σ4) (c_X7_draws (l := l) ka0 (res := (r3, σ4)) qr3) ka0 (by decide) (ci := 7) rfl (cwV 1 hts (bz_gV wd_21_7 wd_21_8 wd_21_9 wd_1_5 wd_21_10) rfl rfl rfl (by decide +kernel) ⟨Nat.le_of_ble_eq_true rfl, Nat.le_of_ble_eq_true rfl⟩) rfl hl.1 rfl (Nat.le_of_ble_eq_true rfl) ⟨Nat.zero_le _, Nat.zero_le _⟩ dX7_allDraw_17 rfl (fun H locs h => ?_)
      refine lv_iadd hx hb dX7_allDraw_20 ?_
      refine lv_topi (fun x5 ex5 => ?_)
      have hF := lt_u hF x5 ex5
      refine lv_istore_n (lv' := [(1, .int x5), (0, .ref a0), (2, .int v2)]) hx hb dX7_allDraw_21 rfl hl (by decide) rfl (fun ls hl => ?_)
      obtain ⟨x6, ex6⟩ : ∃ y : Int32, y = v2 + 1 := ⟨_, rfl⟩
      have hF := lt_u hF x6 ex6
      refine lv_iinc (v := x6) (lv' := [(2, .int x6), (1, .int x5), (0, .ref a0)]) hx hb dX7_allDraw_22 hl (k := 2) rfl (by rw [ex6]; rfl) (by decide) rfl (fun ls hl => ?_)
      refine lv_goto (tgt := 4) hx hb dX7_allDraw_25 (by decide) ?_
      exact ih _ _ _ H locs ls hF h (lv_sub hl [2, 1, 0] rfl) hk
set_option maxHeartbeats 4000000 in
set_option maxRecDepth 100000 in
theorem c_X7_allDraw {l : Launch} {G : bz_G} {σ : bz_W} {a0 : Nat} (ka0 : bz_k G a0 = (8, 0)) {res : Int32 × bz_W} (hF : f_X7_allDraw σ a0 = some res) : bz_M l yX7_allDraw wz_X7_allDraw 3 64 G σ [.ref a0] (some (.int res.1)) res.2 := by
  refine bz_mk (cc := cX7_allDraw) (maxL := 3) (ret := (some .int)) (own := RX7) (by decide) rfl rfl (Nat.le_of_ble_eq_true rfl) ?_
  intro p e s m args below meth c ls C hlocks hr h hl
  have hx := C.1
  have hb := C.2.1
  have hts := C.2.2.2.2.1
  have hl : lv_has ls 3 [(0, .ref a0)] := hl
  obtain ⟨H, eH⟩ : ∃ y, y = s.heap := ⟨_, rfl⟩
  obtain ⟨locs, el⟩ : ∃ y : List Loc, y = [] := ⟨_, rfl⟩
  rw [← el, ← eH] at h ⊢
  unfold f_X7_allDraw at hF
  refine lv_iconst (v := 0) hx hb dX7_allDraw_0 (by decide) ?_
  refine lv_istore_n (lv' := [(1, .int 0), (0, .ref a0)]) hx hb dX7_allDraw_1 rfl hl (by decide) rfl (fun ls hl => ?_)
  refine lv_iconst (v := 0) hx hb dX7_allDraw_2 (by decide) ?_
  refine lv_istore_n (lv' := [(2, .int 0), (1, .int 0), (0, .ref a0)]) hx hb dX7_allDraw_3 rfl hl (by decide) rfl (fun ls hl => ?_)
  refine L_X7_allDraw_L4 C hlocks hr ka0 _ _ _ _ H locs ls hF h (lv_sub hl [2, 1, 0] rfl) ?_
  intro x7 σ8 H locs ls hF h hl
  refine lv_iload_n hx hb dX7_allDraw_28 rfl (lv_at hl 0 rfl) ?_
  exact bz_iret C h hlocks hr hF dX7_allDraw_29
