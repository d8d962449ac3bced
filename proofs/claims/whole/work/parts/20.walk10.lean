set_option maxHeartbeats 4000000 in
set_option maxRecDepth 100000 in
theorem c_X7_count {l : Launch} {G : bz_G} {σ : bz_W} {a0 : Nat} {x1_ : Int32} (ka0 : bz_k G a0 = (8, 0)) {res : Int32 × bz_W} (hF : f_X7_count σ a0 x1_ = some res) : bz_M l yX7_count wz_X7_count 4 86 G σ [.ref a0, .int x1_] (some (.int res.1)) res.2 := by
  refine bz_mk (cc := cX7_count) (maxL := 2) (ret := (some .int)) (own := RX7) (by decide) rfl rfl (Nat.le_of_ble_eq_true rfl) ?_
  intro p e s m args below meth c ls C hlocks hr h hl
  have hx := C.1
  have hb := C.2.1
  have hts := C.2.2.2.2.1
  have hl : lv_has ls 2 [(0, .ref a0), (1, .int x1_)] := hl
  obtain ⟨H, eH⟩ : ∃ y, y = s.heap := ⟨_, rfl⟩
  obtain ⟨locs, el⟩ : ∃ y : List Loc, y = [] := ⟨_, rfl⟩
  rw [← el, ← eH] at h ⊢
  unfold f_X7_count at hF
  refine lv_iload_n hx hb dX7_count_0 rfl (lv_at hl 1 rfl) ?_
  obtain ⟨j2, ej2, hF⟩ := lt_j hF
  have hj2 : ∀ (σ1 : bz_W) (H : Heap) (locs : List Loc) (ls : Array Slot), j2 σ1 = some res → bz_H G s σ1 H locs → lv_has ls 2 [(0, .ref a0), (1, .int x1_)] → W p l e ({ frames := 4, cells := 0, slots := 0, locals := 86 } : Room) s m args below meth c H locs 0 0 (MQ below (bz_Qc G (some (.int res.1)) res.2) args s 0 0 (bz_A G)) (F0 m 95 ls []) := by
      intro σ1 H locs ls hF h hl
      subst ej2
      refine lv_aload_n hx hb dX7_count_95 rfl (lv_at hl 0 rfl) ?_
      refine lv_iload_n hx hb dX7_count_96 rfl (lv_at hl 1 rfl) ?_
      obtain ⟨r3, σ4, qr3, hF⟩ := bd_u hF
      refine bz_callV (rest := []) (st1 := [.int r3]) C h (As := [.int x1_]) (o := some (.int r3)) (τ := σ4) (c_X7_inMode (l := l) ka0 (res := (r3, σ4)) qr3) ka0 (by decide) (ci := 7) rfl (cwV 1 hts (bz_gV wd_35_18 wd_35_19 wd_35_20 wd_1_5 wd_35_21) rfl rfl rfl (by decide +kernel) ⟨Nat.le_of_ble_eq_true rfl, Nat.le_of_ble_eq_true rfl⟩) rfl hl.1 rfl (by decide) ⟨Nat.zero_le _, Nat.zero_le _⟩ dX7_count_97 rfl (fun H locs h => ?_)
      exact bz_iret C h hlocks hr hF dX7_count_100
  by_cases c5 : x1_ = 0
  · have hF := it_t hF c5
    refine lv_tableIn (tgt := 88) hx hb dX7_count_1 (by rw [c5]; decide) (by rw [c5]; decide) (by rw [c5]; rfl) (by decide) ?_
    refine lv_aload_n hx hb dX7_count_88 rfl (lv_at hl 0 rfl) ?_
    refine gf_7_0 C h ka0 iz_X7 (List.mem_cons_of_mem _ wd_4_13) dX7_count_89 (fun k6 => ?_)
    refine lv_iconst (v := 0) hx hb dX7_count_92 (by decide) ?_
    refine bz_iald C h k6 (by decide) (kx := 0) (bz_cl 0 (by decide)) dX7_count_93 ?_
    exact bz_iret C h hlocks hr hF dX7_count_94
  have hF := it_f hF c5
  by_cases c7 : x1_ = 1
  · have hF := it_t hF c7
    refine lv_tableIn (tgt := 95) hx hb dX7_count_1 (by rw [c7]; decide) (by rw [c7]; decide) (by rw [c7]; rfl) (by decide) ?_
    exact hj2 _ H locs ls hF h (lv_sub hl [0, 1] rfl)
  have hF := it_f hF c7
  by_cases c8 : x1_ = 2
  · have hF := it_t hF c8
    refine lv_tableIn (tgt := 95) hx hb dX7_count_1 (by rw [c8]; decide) (by rw [c8]; decide) (by rw [c8]; rfl) (by decide) ?_
    exact hj2 _ H locs ls hF h (lv_sub hl [0, 1] rfl)
  have hF := it_f hF c8
  by_cases c9 : x1_ = 3
  · have hF := it_t hF c9
    refine lv_tableIn (tgt := 95) hx hb dX7_count_1 (by rw [c9]; decide) (by rw [c9]; decide) (by rw [c9]; rfl) (by decide) ?_
    exact hj2 _ H locs ls hF h (lv_sub hl [0, 1] rfl)
  have hF := it_f hF c9
  by_cases c10 : x1_ = 4
  · have hF := it_t hF c10
    refine lv_tableIn (tgt := 95) hx hb dX7_count_1 (by rw [c10]; decide) (by rw [c10]; decide) (by rw [c10]; rfl) (by decide) ?_
    exact hj2 _ H locs ls hF h (lv_sub hl [0, 1] rfl)
  have hF := it_f hF c10
  by_cases c11 : x1_ = 5
  · have hF := it_t hF c11
    refine lv_tableIn (tgt := 101) hx hb dX7_count_1 (by rw [c11]; decide) (by rw [c11]; decide) (by rw [c11]; rfl) (by decide) ?_
    refine lv_aload_n hx hb dX7_count_101 rfl (lv_at hl 0 rfl) ?_
    refine gf_7_0 C h ka0 iz_X7 (List.mem_cons_of_mem _ wd_4_13) dX7_count_102 (fun k12 => ?_)
    refine lv_iconst (v := 1) hx hb dX7_count_105 (by decide) ?_
    refine bz_iald C h k12 (by decide) (kx := 1) (bz_cl 1 (by decide)) dX7_count_106 ?_
    exact bz_iret C h hlocks hr hF dX7_count_107
  have hF := it_f hF c11
  by_cases c13 : x1_ = 6
  · have hF := it_t hF c13
    refine lv_tableIn (tgt := 108) hx hb dX7_count_1 (by rw [c13]; decide) (by rw [c13]; decide) (by rw [c13]; rfl) (by decide) ?_
    refine lv_aload_n hx hb dX7_count_108 rfl (lv_at hl 0 rfl) ?_
    refine gf_7_0 C h ka0 iz_X7 (List.mem_cons_of_mem _ wd_4_13) dX7_count_109 (fun k14 => ?_)
    refine lv_iconst (v := 2) hx hb dX7_count_112 (by decide) ?_
    refine bz_iald C h k14 (by decide) (kx := 2) (bz_cl 2 (by decide)) dX7_count_113 ?_
    exact bz_iret C h hlocks hr hF dX7_count_114
  have hF := it_f hF c13
  by_cases c15 : x1_ = 7
  · have hF := it_t hF c15
    refine lv_tableIn (tgt := 115) hx hb dX7_count_1 (by rw [c15]; decide) (by rw [c15]; decide) (by rw [c15]; rfl) (by decide) ?_
    refine lv_aload_n hx hb dX7_count_115 rfl (lv_at hl 0 rfl) ?_
    refine gf_7_0 C h ka0 iz_X7 (List.mem_cons_of_mem _ wd_4_13) dX7_count_116 (fun k16 => ?_)
    refine lv_iconst (v := 3) hx hb dX7_count_119 (by decide) ?_
    refine bz_iald C h k16 (by decide) (kx := 3) (bz_cl 3 (by decide)) dX7_count_120 ?_
    exact bz_iret C h hlocks hr hF dX7_count_121
  have hF := it_f hF c15
  by_cases c17 : x1_ = 8
  · have hF := it_t hF c17
    refine lv_tableIn (tgt := 122) hx hb dX7_count_1 (by rw [c17]; decide) (by rw [c17]; decide) (by rw [c17]; rfl) (by decide) ?_
    refine lv_aload_n hx hb dX7_count_122 rfl (lv_at hl 0 rfl) ?_
    refine gf_7_5 C h ka0 iz_X7 (List.mem_cons_of_mem _ wd_8_12) dX7_count_123 ?_
    exact bz_iret C h hlocks hr hF dX7_count_126
  have hF := it_f hF c17
  by_cases c18 : x1_ = 9
  · have hF := it_t hF c18
    refine lv_tableIn (tgt := 127) hx hb dX7_count_1 (by rw [c18]; decide) (by rw [c18]; decide) (by rw [c18]; rfl) (by decide) ?_
    refine lv_aload_n hx hb dX7_count_127 rfl (lv_at hl 0 rfl) ?_
    refine gf_7_0 C h ka0 iz_X7 (List.mem_cons_of_mem _ wd_4_13) dX7_count_128 (fun k19 => ?_)
    refine lv_iconst (v := 4) hx hb dX7_count_131 (by decide) ?_
    refine bz_iald C h k19 (by decide) (kx := 4) (bz_cl 4 (by decide)) dX7_count_132 ?_
    exact bz_iret C h hlocks hr hF dX7_count_133
  have hF := it_f hF c18
  by_cases c20 : x1_ = 10
  · have hF := it_t hF c20
    refine lv_tableIn (tgt := 134) hx hb dX7_count_1 (by rw [c20]; decide) (by rw [c20]; decide) (by rw [c20]; rfl) (by decide) ?_
    refine lv_aload_n hx hb dX7_count_134 rfl (lv_at hl 0 rfl) ?_
    refine gf_7_0 C h ka0 iz_X7 (List.mem_cons_of_mem _ wd_4_13) dX7_count_135 (fun k21 => ?_)
    refine lv_iconst (v := 5) hx hb dX7_count_138 (by decide) ?_
    refine bz_iald C h k21 (by decide) (kx := 5) (bz_cl 5 (by decide)) dX7_count_139 ?_
    exact bz_iret C h hlocks hr hF dX7_count_140
  have hF := it_f hF c20
  by_cases c22 : x1_ = 11
  · have hF := it_t hF c22
    refine lv_tableIn (tgt := 141) hx hb dX7_count_1 (by rw [c22]; decide) (by rw [c22]; decide) (by rw [c22]; rfl) (by decide) ?_
    refine lv_aload_n hx hb dX7_count_141 rfl (lv_at hl 0 rfl) ?_
    refine lv_bipush (v := 12) hx hb dX7_count_142 (by decide) ?_
    obtain ⟨r23, σ24, qr23, hF⟩ := bd_u hF
    refine bz_callV (rest := []) (st1 := [.int r23]) C h (As := [.int 12]) (o := some (.int r23)) (τ := σ24) (c_X7_sumOf (l := l) ka0 (res := (r23, σ24)) qr23) ka0 (by decide) (ci := 7) rfl (cwV 1 hts (bz_gV wd_35_22 wd_35_23 wd_36_0 wd_1_5 wd_36_1) rfl rfl rfl (by decide +kernel) ⟨Nat.le_of_ble_eq_true rfl, Nat.le_of_ble_eq_true rfl⟩) rfl hl.1 rfl (by decide) ⟨Nat.zero_le _, Nat.zero_le _⟩ dX7_count_144 rfl (fun H locs h => ?_)
    exact bz_iret C h hlocks hr hF dX7_count_147
  have hF := it_f hF c22
  by_cases c25 : x1_ = 12
  · have hF := it_t hF c25
    refine lv_tableIn (tgt := 148) hx hb dX7_count_1 (by rw [c25]; decide) (by rw [c25]; decide) (by rw [c25]; rfl) (by decide) ?_
    refine lv_aload_n hx hb dX7_count_148 rfl (lv_at hl 0 rfl) ?_
    refine lv_bipush (v := 13) hx hb dX7_count_149 (by decide) ?_
    obtain ⟨r26, σ27, qr26, hF⟩ := bd_u hF
    refine bz_callV (rest := []) (st1 := [.int r26]) C h (As := [.int 13]) (o := some (.int r26)) (τ := σ27) (c_X7_sumOf (l := l) ka0 (res := (r26, σ27)) qr26) ka0 (by decide) (ci := 7) rfl (cwV 1 hts (bz_gV wd_35_22 wd_35_23 wd_36_0 wd_1_5 wd_36_1) rfl rfl rfl (by decide +kernel) ⟨Nat.le_of_ble_eq_true rfl, Nat.le_of_ble_eq_true rfl⟩) rfl hl.1 rfl (by decide) ⟨Nat.zero_le _, Nat.zero_le _⟩ dX7_count_151 rfl (fun H locs h => ?_)
    exact bz_iret C h hlocks hr hF dX7_count_154
  have hF := it_f hF c25
  by_cases c28 : x1_ = 13
  · have hF := it_t hF c28
    refine lv_tableIn (tgt := 155) hx hb dX7_count_1 (by rw [c28]; decide) (by rw [c28]; decide) (by rw [c28]; rfl) (by decide) ?_
    refine lv_aload_n hx hb dX7_count_155 rfl (lv_at hl 0 rfl) ?_
    refine lv_bipush (v := 6) hx hb dX7_count_156 (by decide) ?_
    obtain ⟨r29, σ30, qr29, hF⟩ := bd_u hF
    refine bz_callV (rest := []) (st1 := [.int r29]) C h (As := [.int 6]) (o := some (.int r29)) (τ := σ30) (c_X7_sumOf (l := l) ka0 (res := (r29, σ30)) qr29) ka0 (by decide) (ci := 7) rfl (cwV 1 hts (bz_gV wd_35_22 wd_35_23 wd_36_0 wd_1_5 wd_36_1) rfl rfl rfl (by decide +kernel) ⟨Nat.le_of_ble_eq_true rfl, Nat.le_of_ble_eq_true rfl⟩) rfl hl.1 rfl (by decide) ⟨Nat.zero_le _, Nat.zero_le _⟩ dX7_count_158 rfl (fun H locs h => ?_)
    exact bz_iret C h hlocks hr hF dX7_count_161
  have hF := it_f hF c28
  by_cases c31 : x1_ = 14
  · have hF := it_t hF c31
    refine lv_tableIn (tgt := 162) hx hb dX7_count_1 (by rw [c31]; decide) (by rw [c31]; decide) (by rw [c31]; rfl) (by decide) ?_
    refine lv_aload_n hx hb dX7_count_162 rfl (lv_at hl 0 rfl) ?_
    obtain ⟨r32, σ33, qr32, hF⟩ := bd_u hF
    refine bz_callV (rest := []) (st1 := [.int r32]) C h (As := []) (o := some (.int r32)) (τ := σ33) (c_X7_allDraw (l := l) ka0 (res := (r32, σ33)) qr32) ka0 (by decide) (ci := 7) rfl (cwV 0 hts (bz_gV wd_36_2 wd_36_3 wd_36_4 wd_1_5 wd_36_5) rfl rfl rfl (by decide +kernel) ⟨Nat.le_of_ble_eq_true rfl, Nat.le_of_ble_eq_true rfl⟩) rfl hl.1 rfl (by decide) ⟨Nat.zero_le _, Nat.zero_le _⟩ dX7_count_163 rfl (fun H locs h => ?_)
    exact bz_iret C h hlocks hr hF dX7_count_166
  have hF := it_f hF c31
  by_cases c34 : x1_ = 15
  · have hF := it_t hF c34
    refine lv_tableIn (tgt := 167) hx hb dX7_count_1 (by rw [c34]; decide) (by rw [c34]; decide) (by rw [c34]; rfl) (by decide) ?_
    refine lv_aload_n hx hb dX7_count_167 rfl (lv_at hl 0 rfl) ?_
    refine gf_7_0 C h ka0 iz_X7 (List.mem_cons_of_mem _ wd_4_13) dX7_count_168 (fun k35 => ?_)
    refine lv_bipush (v := 6) hx hb dX7_count_171 (by decide) ?_
    refine bz_iald C h k35 (by decide) (kx := 6) (bz_cl 6 (by decide)) dX7_count_173 ?_
    exact bz_iret C h hlocks hr hF dX7_count_174
  have hF := it_f hF c34
  by_cases c36 : x1_ = 16
  · have hF := it_t hF c36
    refine lv_tableIn (tgt := 175) hx hb dX7_count_1 (by rw [c36]; decide) (by rw [c36]; decide) (by rw [c36]; rfl) (by decide) ?_
    refine lv_aload_n hx hb dX7_count_175 rfl (lv_at hl 0 rfl) ?_
    refine gf_7_2 C h ka0 iz_X7 (List.mem_cons_of_mem _ wd_8_17) dX7_count_176 ?_
    exact bz_iret C h hlocks hr hF dX7_count_179
  have hF := it_f hF c36
  by_cases c37 : x1_ = 17
  · have hF := it_t hF c37
    refine lv_tableIn (tgt := 180) hx hb dX7_count_1 (by rw [c37]; decide) (by rw [c37]; decide) (by rw [c37]; rfl) (by decide) ?_
    refine lv_aload_n hx hb dX7_count_180 rfl (lv_at hl 0 rfl) ?_
    refine gf_7_6 C h ka0 iz_X7 (List.mem_cons_of_mem _ wd_22_9) dX7_count_181 ?_
    exact bz_iret C h hlocks hr hF dX7_count_184
  have hF := it_f hF c37
  refine lv_tableOut (tgt := 185) hx hb dX7_count_1 (bz_out18 c5 c7 c8 c9 c10 c11 c13 c15 c17 c18 c20 c22 c25 c28 c31 c34 c36 c37) (by decide) ?_
  refine lv_bipush (v := (-2)) hx hb dX7_count_185 (by decide) ?_
  exact bz_iret C h hlocks hr hF dX7_count_187
