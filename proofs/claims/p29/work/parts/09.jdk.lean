set_option maxHeartbeats 4000000 in
set_option maxRecDepth 100000 in
theorem c_J0_coder_7d493 {l : Launch} {G : bz_G} {σ : bz_W} {a0 : Nat} (ka0 : a0 < 5) : bz_M l yJ0_coder_7d493 wz_J0_coder_7d493 0 0 G σ [.ref (bz_aK G a0)] (some (.int 0)) σ := by
  refine bz_mk (cc := cJ0_coder_7d493) (maxL := 1) (ret := (some .byte)) (own := RJ0) (by decide) rfl rfl (Nat.le_of_ble_eq_true rfl) ?_
  intro p e s m args below meth c ls C hlocks hr h hl
  have hx := C.1
  have hb := C.2.1
  have hts := C.2.2.2.2.1
  have hl : lv_has ls 1 [(0, .ref (bz_aK G a0))] := hl
  obtain ⟨H, eH⟩ : ∃ y, y = s.heap := ⟨_, rfl⟩
  obtain ⟨locs, el⟩ : ∃ y : List Loc, y = [] := ⟨_, rfl⟩
  rw [← el, ← eH] at h ⊢
  refine va_gets hx hb C.2.2.2.2.2.2.2.1 h.2.2 C.2.2.2.1 (hts _ (List.mem_cons_of_mem _ wd_13_18)) (fun x h => h) dJ0_coder_7d493_0 ?_
  refine lv_if_eq (tgt := 13) hx hb dJ0_coder_7d493_3 (by decide) (fun c => absurd c (by decide)) (fun c => ?_)
  refine lv_aload_n hx hb dJ0_coder_7d493_6 rfl (lv_at hl 0 rfl) ?_
  refine vk_getf hx hb (C.2.2.2.2.2.2.1.1 a0 ka0).2.1 h.2.2 C.2.2.2.1 (hts _ (List.mem_cons_of_mem _ wd_13_19)) (fun x h => h) dJ0_coder_7d493_7 ?_
  refine lv_goto (tgt := 14) hx hb dJ0_coder_7d493_10 (by decide) ?_
  exact bz_zret C h hlocks hr (res := (0, σ)) rfl rfl dJ0_coder_7d493_14

set_option maxHeartbeats 4000000 in
set_option maxRecDepth 100000 in
theorem c_J0_isLatin1_aae02 {l : Launch} {G : bz_G} {σ : bz_W} {a0 : Nat} (ka0 : a0 < 5) : bz_M l yJ0_isLatin1_aae02 wz_J0_isLatin1_aae02 0 0 G σ [.ref (bz_aK G a0)] (some (.int 1)) σ := by
  refine bz_mk (cc := cJ0_isLatin1_aae02) (maxL := 1) (ret := (some .boolean)) (own := RJ0) (by decide) rfl rfl (Nat.le_of_ble_eq_true rfl) ?_
  intro p e s m args below meth c ls C hlocks hr h hl
  have hx := C.1
  have hb := C.2.1
  have hts := C.2.2.2.2.1
  have hl : lv_has ls 1 [(0, .ref (bz_aK G a0))] := hl
  obtain ⟨H, eH⟩ : ∃ y, y = s.heap := ⟨_, rfl⟩
  obtain ⟨locs, el⟩ : ∃ y : List Loc, y = [] := ⟨_, rfl⟩
  rw [← el, ← eH] at h ⊢
  refine va_gets hx hb C.2.2.2.2.2.2.2.1 h.2.2 C.2.2.2.1 (hts _ (List.mem_cons_of_mem _ wd_13_18)) (fun x h => h) dJ0_isLatin1_aae02_0 ?_
  refine lv_if_eq (tgt := 17) hx hb dJ0_isLatin1_aae02_3 (by decide) (fun c => absurd c (by decide)) (fun c => ?_)
  refine lv_aload_n hx hb dJ0_isLatin1_aae02_6 rfl (lv_at hl 0 rfl) ?_
  refine vk_getf hx hb (C.2.2.2.2.2.2.1.1 a0 ka0).2.1 h.2.2 C.2.2.2.1 (hts _ (List.mem_cons_of_mem _ wd_13_19)) (fun x h => h) dJ0_isLatin1_aae02_7 ?_
  refine lv_if_ne (tgt := 17) hx hb dJ0_isLatin1_aae02_10 (by decide) (fun c => absurd rfl c) (fun c => ?_)
  refine lv_iconst (v := 1) hx hb dJ0_isLatin1_aae02_13 (by decide) ?_
  refine lv_goto (tgt := 18) hx hb dJ0_isLatin1_aae02_14 (by decide) ?_
  exact bz_zret C h hlocks hr (res := (1, σ)) rfl rfl dJ0_isLatin1_aae02_18

theorem c_J3_checkIndex_8e157 {l : Launch} {G : bz_G} {σ : bz_W} {x n : Int32} {vf : Value} (hvf : vf = .null ∨ ∃ t, vf = .ref t) (h0 : ¬ x < 0) (h1 : x < n) : bz_M l yJ3_checkIndex_8e157 wz_J3_checkIndex_8e157 0 0 G σ [.int x, .int n, vf] (some (.int x)) σ := by
  rcases hvf with rfl | ⟨t, rfl⟩ <;>
  (refine bz_mk (cc := cJ3_checkIndex_8e157) (maxL := 3) (ret := (some .int)) (own := RJ3) (by decide) rfl rfl (Nat.le_of_ble_eq_true rfl) ?_
   intro p e s m args below meth c ls C hlocks hr h hl
   have hx := C.1
   have hb := C.2.1
   obtain ⟨H, eH⟩ : ∃ y, y = s.heap := ⟨_, rfl⟩
   obtain ⟨locs, el⟩ : ∃ y : List Loc, y = [] := ⟨_, rfl⟩
   rw [← el, ← eH] at h ⊢
   have hl : lv_has ls 3 [(0, .int x), (1, .int n)] := lv_sub hl [0, 1] rfl
   refine lv_iload_n hx hb dJ3_checkIndex_8e157_0 rfl (lv_at hl 0 rfl) ?_
   refine lv_if_lt (tgt := 9) hx hb dJ3_checkIndex_8e157_1 (by decide) (fun c => absurd c h0) (fun c => ?_)
   refine lv_iload_n hx hb dJ3_checkIndex_8e157_4 rfl (lv_at hl 0 rfl) ?_
   refine lv_iload_n hx hb dJ3_checkIndex_8e157_5 rfl (lv_at hl 1 rfl) ?_
   refine lv_icmp_lt (tgt := 16) hx hb dJ3_checkIndex_8e157_6 (by decide) (fun c => ?_) (fun c => absurd h1 c)
   refine lv_iload_n hx hb dJ3_checkIndex_8e157_16 rfl (lv_at hl 0 rfl) ?_
   exact bz_iret C h hlocks hr (res := (x, σ)) rfl dJ3_checkIndex_8e157_17)

set_option maxHeartbeats 4000000 in
set_option maxRecDepth 100000 in
theorem c_J0_checkIndex_df160 {l : Launch} {G : bz_G} {σ : bz_W} {x n : Int32} (h0 : ¬ x < 0) (h1 : x < n) : bz_M l yJ0_checkIndex_df160 wz_J0_checkIndex_df160 1 22 G σ [.int x, .int n] none σ := by
  refine bz_mk (cc := cJ0_checkIndex_df160) (maxL := 2) (ret := none) (own := RJ0) (by decide) rfl rfl (Nat.le_of_ble_eq_true rfl) ?_
  intro p e s m args below meth c ls C hlocks hr h hl
  have hx := C.1
  have hb := C.2.1
  have hts := C.2.2.2.2.1
  have hl : lv_has ls 2 [(0, .int x), (1, .int n)] := hl
  obtain ⟨H, eH⟩ : ∃ y, y = s.heap := ⟨_, rfl⟩
  obtain ⟨locs, el⟩ : ∃ y : List Loc, y = [] := ⟨_, rfl⟩
  rw [← el, ← eH] at h ⊢
  refine lv_iload_n hx hb dJ0_checkIndex_df160_0 rfl (lv_at hl 0 rfl) ?_
  refine lv_iload_n hx hb dJ0_checkIndex_df160_1 rfl (lv_at hl 1 rfl) ?_
  have key : ∀ vf : Value, (vf = .null ∨ ∃ t, vf = .ref t) → va_Z "jdk/internal/util/Preconditions" "SIOOBE_FORMATTER" "Ljava/util/function/BiFunction;" vf (bz_A G) s s.heap → W p l e ({ frames := 1, cells := 0, slots := 0, locals := 22 } : Room) s m args below meth c H locs 0 0 (MQ below (bz_Qc G none σ) args s 0 0 (bz_A G)) (F0 m 2 ls [.int n, .int x]) := by
    intro vf hvf hZ
    refine va_gets hx hb hZ h.2.2 C.2.2.2.1 (hts _ (List.mem_cons_of_mem _ wd_14_11)) (fun x h => h) dJ0_checkIndex_df160_2 ?_
    refine bz_callS (rest := []) (st1 := [.int x]) C h (As := [.int x, .int n, vf]) (o := some (.int x)) (τ := σ) (c_J3_checkIndex_8e157 (l := l) hvf h0 h1) (va_cwS 3 hts (bz_gS wd_14_12 wd_14_13 wd_14_14 wd_14_15) rfl rfl rfl (by decide +kernel) ⟨Nat.le_of_ble_eq_true rfl, Nat.le_of_ble_eq_true rfl⟩) rfl hl.1 rfl (Nat.le_of_ble_eq_true rfl) ⟨Nat.zero_le _, Nat.zero_le _⟩ dJ0_checkIndex_df160_5 rfl (fun H locs h => ?_)
    refine lv_pop hx hb dJ0_checkIndex_df160_8 rfl ?_
    exact bz_vret C h hlocks hr (v := 0) (res := (0, σ)) rfl dJ0_checkIndex_df160_9
  rcases C.2.2.2.2.2.2.2.2 with hZ | ⟨t, hZ⟩
  · exact key _ (Or.inl rfl) hZ
  · exact key _ (Or.inr ⟨t, rfl⟩) hZ

set_option maxHeartbeats 4000000 in
set_option maxRecDepth 100000 in
theorem c_J1_charAt_3b067 {l : Launch} {G : bz_G} {σ : bz_W} {a0 : Nat} {x : Int32} (ka0 : a0 < 5) (hi : in_ x (bz_len.getD a0 0) = true) : bz_M l yJ1_charAt_3b067 wz_J1_charAt_3b067 2 43 G σ [.ref (bz_aV G a0), .int x] (some (.int ((bz_byt.getD a0 []).getD x.toNatClampNeg 0))) σ := by
  refine bz_mk (cc := cJ1_charAt_3b067) (maxL := 2) (ret := (some .char)) (own := RJ1) (by decide) rfl rfl (Nat.le_of_ble_eq_true rfl) ?_
  intro p e s m args below meth c ls C hlocks hr h hl
  have hx := C.1
  have hb := C.2.1
  have hts := C.2.2.2.2.1
  have hl : lv_has ls 2 [(0, .ref (bz_aV G a0)), (1, .int x)] := hl
  obtain ⟨H, eH⟩ : ∃ y, y = s.heap := ⟨_, rfl⟩
  obtain ⟨locs, el⟩ : ∃ y : List Loc, y = [] := ⟨_, rfl⟩
  rw [← el, ← eH] at h ⊢
  have hT := (C.2.2.2.2.2.2.1.1 a0 ka0).2.2.2
  have hi2 := in_u hi
  have hlen : bz_len.getD a0 0 < 2 ^ 31 := by
    rcases (show a0 = 0 ∨ a0 = 1 ∨ a0 = 2 ∨ a0 = 3 ∨ a0 = 4 by omega) with rfl | rfl | rfl | rfl | rfl <;> decide
  obtain ⟨j, hj, ej⟩ := vp_in_of hi2 hlen
  have h0 : ¬ x < 0 := by rw [ej]; exact nI_pos (by omega)
  have h1 : x < nI (bz_len.getD a0 0) := by rw [ej]; exact nI_lt hj (by omega)
  refine lv_iload_n hx hb dJ1_charAt_3b067_0 rfl (lv_at hl 1 rfl) ?_
  refine lv_aload_n hx hb dJ1_charAt_3b067_1 rfl (lv_at hl 0 rfl) ?_
  refine va_tlen hx hb hT h.2.2 (v := nI (bz_len.getD a0 0)) rfl dJ1_charAt_3b067_2 ?_
  refine bz_callS (rest := []) (st1 := []) C h (As := [.int x, .int (nI (bz_len.getD a0 0))]) (o := none) (τ := σ) (c_J0_checkIndex_df160 (l := l) h0 h1) (va_cwS 2 hts (bz_gS wd_14_8 wd_14_9 wd_13_11 wd_14_10) rfl rfl rfl (by decide +kernel) ⟨Nat.le_of_ble_eq_true rfl, Nat.le_of_ble_eq_true rfl⟩) rfl hl.1 rfl (Nat.le_of_ble_eq_true rfl) ⟨Nat.zero_le _, Nat.zero_le _⟩ dJ1_charAt_3b067_3 rfl (fun H locs h => ?_)
  refine lv_aload_n hx hb dJ1_charAt_3b067_6 rfl (lv_at hl 0 rfl) ?_
  refine lv_iload_n hx hb dJ1_charAt_3b067_7 rfl (lv_at hl 1 rfl) ?_
  refine va_tb hx hb hT h.2.2 hi2 rfl dJ1_charAt_3b067_8 ?_
  refine lv_sipush (v := 255) hx hb dJ1_charAt_3b067_9 (by decide) ?_
  refine lv_iand hx hb dJ1_charAt_3b067_12 ?_
  refine lv_i2c hx hb dJ1_charAt_3b067_13 (v := (bz_byt.getD a0 []).getD x.toNatClampNeg 0 &&& 255) (sc_c2 _) ?_
  have e5 : (bz_byt.getD a0 []).getD x.toNatClampNeg 0 &&& 255 = (bz_byt.getD a0 []).getD x.toNatClampNeg 0 := by
    rw [ej, nI_clamp (by omega)]
    rcases (show a0 = 0 ∨ a0 = 1 ∨ a0 = 2 ∨ a0 = 3 ∨ a0 = 4 by omega) with rfl | rfl | rfl | rfl | rfl
    · have hj : j < 5 := hj
      rcases (show j = 0 ∨ j = 1 ∨ j = 2 ∨ j = 3 ∨ j = 4 by omega) with rfl | rfl | rfl | rfl | rfl <;> rfl
    · have hj : j < 4 := hj
      rcases (show j = 0 ∨ j = 1 ∨ j = 2 ∨ j = 3 by omega) with rfl | rfl | rfl | rfl <;> rfl
    · have hj : j < 4 := hj
      rcases (show j = 0 ∨ j = 1 ∨ j = 2 ∨ j = 3 by omega) with rfl | rfl | rfl | rfl <;> rfl
    · have hj : j < 5 := hj
      rcases (show j = 0 ∨ j = 1 ∨ j = 2 ∨ j = 3 ∨ j = 4 by omega) with rfl | rfl | rfl | rfl | rfl <;> rfl
    · have hj : j < 3 := hj
      rcases (show j = 0 ∨ j = 1 ∨ j = 2 by omega) with rfl | rfl | rfl <;> rfl
  have e6 := sc_nar ((bz_byt.getD a0 []).getD x.toNatClampNeg 0)
  rw [e5] at e6 ⊢
  exact bz_zret C h hlocks hr e6 (res := (_, σ)) rfl dJ1_charAt_3b067_14

theorem c_J0_length_8abf5_w {l : Launch} {G : bz_G} {σ : bz_W} {a0 : Nat} (ka0 : a0 < 5) : bz_M l yJ0_length_8abf5 wz_J0_length_8abf5 1 24 G σ [.ref (bz_aK G a0)] (some (.int (nI (bz_len.getD a0 0)))) σ := by
  refine bz_mk (cc := cJ0_length_8abf5) (maxL := 1) (ret := (some .int)) (own := RJ0) (by decide) rfl rfl (Nat.le_of_ble_eq_true rfl) ?_
  intro p e s m args below meth c ls C hlocks hr h hl
  have hx := C.1
  have hb := C.2.1
  have hts := C.2.2.2.2.1
  have hl : lv_has ls 1 [(0, .ref (bz_aK G a0))] := hl
  obtain ⟨H, eH⟩ : ∃ y, y = s.heap := ⟨_, rfl⟩
  obtain ⟨locs, el⟩ : ∃ y : List Loc, y = [] := ⟨_, rfl⟩
  rw [← el, ← eH] at h ⊢
  refine lv_aload_n hx hb dJ0_length_8abf5_0 rfl (lv_at hl 0 rfl) ?_
  refine vk_getf hx hb (C.2.2.2.2.2.2.1.1 a0 ka0).2.2.1 h.2.2 C.2.2.2.1 (hts _ (List.mem_cons_of_mem _ wd_13_13)) (fun x h => h) dJ0_length_8abf5_1 ?_
  refine va_tlen hx hb (C.2.2.2.2.2.2.1.1 a0 ka0).2.2.2 h.2.2 (v := nI (bz_len.getD a0 0)) rfl dJ0_length_8abf5_4 ?_
  refine lv_aload_n hx hb dJ0_length_8abf5_5 rfl (lv_at hl 0 rfl) ?_
  refine bz_callT (rest := [.int (nI (bz_len.getD a0 0))]) (st1 := [.int 0, .int (nI (bz_len.getD a0 0))]) C h (As := []) (o := some (.int 0)) (τ := σ) (i := a0) (c_J0_coder_7d493 (l := l) ka0) ka0 (cwV 0 hts (bz_gV wd_13_14 wd_13_15 wd_13_16 wd_13_11 wd_13_17) rfl rfl rfl (by decide +kernel) ⟨Nat.le_of_ble_eq_true rfl, Nat.le_of_ble_eq_true rfl⟩) rfl hl.1 rfl (Nat.le_of_ble_eq_true rfl) ⟨Nat.zero_le _, Nat.zero_le _⟩ dJ0_length_8abf5_6 rfl (fun H locs h => ?_)
  refine lv_ishr hx hb dJ0_length_8abf5_9 ?_
  rw [sb_shr0]
  exact bz_iret C h hlocks hr (res := (_, σ)) rfl dJ0_length_8abf5_10

theorem c_J0_charAt_5068e_w {l : Launch} {G : bz_G} {σ : bz_W} {a0 : Nat} {x : Int32} (ka0 : a0 < 5) (hi : in_ x (bz_len.getD a0 0) = true) : bz_M l yJ0_charAt_5068e wz_J0_charAt_5068e 4 100 G σ [.ref (bz_aK G a0), .int x] (some (.int ((bz_byt.getD a0 []).getD x.toNatClampNeg 0))) σ := by
  refine bz_mk (cc := cJ0_charAt_5068e) (maxL := 2) (ret := (some .char)) (own := RJ0) (by decide) rfl rfl (Nat.le_of_ble_eq_true rfl) ?_
  intro p e s m args below meth c ls C hlocks hr h hl
  have hx := C.1
  have hb := C.2.1
  have hts := C.2.2.2.2.1
  have hl : lv_has ls 2 [(0, .ref (bz_aK G a0)), (1, .int x)] := hl
  obtain ⟨H, eH⟩ : ∃ y, y = s.heap := ⟨_, rfl⟩
  obtain ⟨locs, el⟩ : ∃ y : List Loc, y = [] := ⟨_, rfl⟩
  rw [← el, ← eH] at h ⊢
  have hi2 := in_u hi
  have hlen : bz_len.getD a0 0 < 2 ^ 31 := by
    rcases (show a0 = 0 ∨ a0 = 1 ∨ a0 = 2 ∨ a0 = 3 ∨ a0 = 4 by omega) with rfl | rfl | rfl | rfl | rfl <;> decide
  obtain ⟨j, hj, ej⟩ := vp_in_of hi2 hlen
  refine lv_aload_n hx hb dJ0_charAt_5068e_0 rfl (lv_at hl 0 rfl) ?_
  refine bz_callT (rest := []) (st1 := [.int 1]) C h (As := []) (o := some (.int 1)) (τ := σ) (i := a0) (c_J0_isLatin1_aae02 (l := l) ka0) ka0 (cwV 0 hts (bz_gV wd_14_0 wd_14_1 wd_14_2 wd_13_11 wd_14_3) rfl rfl rfl (by decide +kernel) ⟨Nat.le_of_ble_eq_true rfl, Nat.le_of_ble_eq_true rfl⟩) rfl hl.1 rfl (Nat.le_of_ble_eq_true rfl) ⟨Nat.zero_le _, Nat.zero_le _⟩ dJ0_charAt_5068e_1 rfl (fun H locs h => ?_)
  refine lv_if_eq (tgt := 16) hx hb dJ0_charAt_5068e_4 (by decide) (fun c => absurd c (by decide)) (fun c => ?_)
  refine lv_aload_n hx hb dJ0_charAt_5068e_7 rfl (lv_at hl 0 rfl) ?_
  refine vk_getf hx hb (C.2.2.2.2.2.2.1.1 a0 ka0).2.2.1 h.2.2 C.2.2.2.1 (hts _ (List.mem_cons_of_mem _ wd_13_13)) (fun x h => h) dJ0_charAt_5068e_8 ?_
  refine lv_iload_n hx hb dJ0_charAt_5068e_11 rfl (lv_at hl 1 rfl) ?_
  refine bz_callS (rest := []) (st1 := [.int ((bz_byt.getD a0 []).getD x.toNatClampNeg 0)]) C h (As := [.ref (bz_aV G a0), .int x]) (o := some (.int ((bz_byt.getD a0 []).getD x.toNatClampNeg 0))) (τ := σ) (c_J1_charAt_3b067 (l := l) ka0 hi) (va_cwS 2 hts (bz_gS wd_14_4 wd_14_5 wd_14_6 wd_14_7) rfl rfl rfl (by decide +kernel) ⟨Nat.le_of_ble_eq_true rfl, Nat.le_of_ble_eq_true rfl⟩) rfl hl.1 rfl (Nat.le_of_ble_eq_true rfl) ⟨Nat.zero_le _, Nat.zero_le _⟩ dJ0_charAt_5068e_12 rfl (fun H locs h => ?_)
  have e6 : narrow .char (.int ((bz_byt.getD a0 []).getD x.toNatClampNeg 0)) = .int ((bz_byt.getD a0 []).getD x.toNatClampNeg 0) := by
    rw [ej, nI_clamp (by omega)]
    rcases (show a0 = 0 ∨ a0 = 1 ∨ a0 = 2 ∨ a0 = 3 ∨ a0 = 4 by omega) with rfl | rfl | rfl | rfl | rfl
    · have hj : j < 5 := hj
      rcases (show j = 0 ∨ j = 1 ∨ j = 2 ∨ j = 3 ∨ j = 4 by omega) with rfl | rfl | rfl | rfl | rfl <;> rfl
    · have hj : j < 4 := hj
      rcases (show j = 0 ∨ j = 1 ∨ j = 2 ∨ j = 3 by omega) with rfl | rfl | rfl | rfl <;> rfl
    · have hj : j < 4 := hj
      rcases (show j = 0 ∨ j = 1 ∨ j = 2 ∨ j = 3 by omega) with rfl | rfl | rfl | rfl <;> rfl
    · have hj : j < 5 := hj
      rcases (show j = 0 ∨ j = 1 ∨ j = 2 ∨ j = 3 ∨ j = 4 by omega) with rfl | rfl | rfl | rfl | rfl <;> rfl
    · have hj : j < 3 := hj
      rcases (show j = 0 ∨ j = 1 ∨ j = 2 by omega) with rfl | rfl | rfl <;> rfl
  exact bz_zret C h hlocks hr e6 (res := (_, σ)) rfl dJ0_charAt_5068e_15

theorem c_J0_length_8abf5 {l : Launch} {G : bz_G} {σ : bz_W} {a0 : Nat} (ka0 : a0 < 5) {res : Int32 × bz_W} (hF : f_J0_length_8abf5 σ a0 = some res) : bz_M l yJ0_length_8abf5 wz_J0_length_8abf5 1 24 G σ [.ref (bz_aK G a0)] (some (.int res.1)) res.2 := by
  obtain rfl := Option.some.inj hF
  exact c_J0_length_8abf5_w ka0
theorem c_J0_charAt_5068e {l : Launch} {G : bz_G} {σ : bz_W} {a0 : Nat} {x1_ : Int32} (ka0 : a0 < 5) {res : Int32 × bz_W} (hF : f_J0_charAt_5068e σ a0 x1_ = some res) : bz_M l yJ0_charAt_5068e wz_J0_charAt_5068e 4 100 G σ [.ref (bz_aK G a0), .int x1_] (some (.int res.1)) res.2 := by
  unfold f_J0_charAt_5068e at hF
  obtain ⟨hi, hF⟩ := ck_u hF
  obtain rfl := Option.some.inj hF
  exact c_J0_charAt_5068e_w ka0 hi

theorem bz_mkF {l : Launch} {y : MethodName} {ws ws' : List Cond} {fr lo maxL : Nat} {G : bz_G} {σ τ : bz_W} {As : List Value} {o : Option Value} {cc : ByteArray} {ret : Option FieldType} {own : String} (hy : Jvm.plainFor y = true) (hw : ws = Cond.code y cc maxL ret :: ws') (hown : y.cls = own) (hlen : (lg_sl As).length ≤ maxL) (body : ∀ (p : Program) (e : Env) (s : State) (m : MethodId) (args : Array Value) (below : List Frame) (meth : Method) (c : Code) (ls : Array Slot), bz_C p s m c args cc maxL own ws G → meth.locks = false → meth.sig.returnType = ret → bz_H G s σ s.heap [] → lv_has ls maxL (lv_args 0 As) → W p l e ({ frames := fr, cells := 0, slots := 0, locals := lo } : Room) s m args below meth c s.heap [] 0 0 (MQ below (bz_Qc G o τ) args s 0 0 (bz_A G)) (F0 m 0 ls [])) : bz_M l y ws fr lo G σ As o τ := by
  unfold bz_M Met
  refine MetFree.of_bodySF (code := cc) (maxLocals := maxL) (ret := ret) hy ?_ ?_
  · intro args s m h hn
    obtain ⟨meth, c, h1, h2, h3, h4, h5, h6, -, -⟩ := Cond.code_spec hn (atoms_spec (ws := ws) h _ (by rw [hw]; exact List.mem_cons_self))
    exact ⟨meth, c, h1, h2, h3, h4, h5, h6⟩
  · intro p e s m args below meth c s₁ B hml hv _
    obtain ⟨rfl, h1, h2, h3, h4⟩ := hv
    have hts := atoms_spec (ws := ws) B.pre
    have hown' : s.vm.findClass own = some m.cls := by
      rw [← hown]
      exact findClass_of_methodNamed B.named
    have hl := lv_entry As (n := maxL) hlen
    have hh0 : s₁.heap = s.heap := by rw [B.state]; rfl
    have hW := body p e s m _ below meth c _ ⟨B.exec, B.bytes, hml, hown', hts, h1, h2⟩ B.notSynchronized B.returns ⟨h3, h4, va_S.rf⟩ hl
    rw [← lg_entry_eq] at hW
    obtain ⟨t, a1, o, b1, b2, b3⟩ := hW s₁ hh0 (Stand.of_body B)
    exact ⟨t, o, a1, b1, b2, ⟨b3.1, b3.2⟩⟩

set_option maxHeartbeats 4000000 in
set_option maxRecDepth 100000 in
theorem c_J9_floorMod_7cf53 {l : Launch} {G : bz_G} {σ : bz_W} {x y : Int32} (hy : ¬ y = 0) : bz_M l yJ9_floorMod_7cf53 wz_J9_floorMod_7cf53 0 0 G σ [.int x, .int y] (some (.int (fm_ x y))) σ := by
  refine bz_mkF (cc := cJ9_floorMod_7cf53) (maxL := 3) (ret := (some .int)) (own := RJ9) (by decide +kernel) rfl rfl (Nat.le_of_ble_eq_true rfl) ?_
  intro p e s m args below meth c ls C hlocks hr h hl
  have hx := C.1
  have hb := C.2.1
  have hts := C.2.2.2.2.1
  have hl : lv_has ls 3 [(0, .int x), (1, .int y)] := hl
  obtain ⟨H, eH⟩ : ∃ y, y = s.heap := ⟨_, rfl⟩
  obtain ⟨locs, el⟩ : ∃ y : List Loc, y = [] := ⟨_, rfl⟩
  rw [← el, ← eH] at h ⊢
  refine lv_iload_n hx hb dJ9_floorMod_7cf53_0 rfl (lv_at hl 0 rfl) ?_
  refine lv_iload_n hx hb dJ9_floorMod_7cf53_1 rfl (lv_at hl 1 rfl) ?_
  refine lv_irem hx hb dJ9_floorMod_7cf53_2 hy ?_
  refine lv_istore_n (lv' := [(2, .int (x - x / y * y)), (0, .int x), (1, .int y)]) hx hb dJ9_floorMod_7cf53_3 rfl hl (by decide) rfl (fun ls hl => ?_)
  refine lv_iload_n hx hb dJ9_floorMod_7cf53_4 rfl (lv_at hl 1 rfl) ?_
  refine lv_iload_n hx hb dJ9_floorMod_7cf53_5 rfl (lv_at hl 2 rfl) ?_
  refine lv_ixor hx hb dJ9_floorMod_7cf53_6 ?_
  refine lv_if_ge (tgt := 18) hx hb dJ9_floorMod_7cf53_7 (by decide) (fun c => ?_) (fun c => ?_)
  · refine lv_iload_n hx hb dJ9_floorMod_7cf53_18 rfl (lv_at hl 0 rfl) ?_
    exact bz_iret C h hlocks hr (res := (fm_ x y, σ)) (by rw [fm_, if_pos c]) dJ9_floorMod_7cf53_19
  refine lv_iload_n hx hb dJ9_floorMod_7cf53_10 rfl (lv_at hl 0 rfl) ?_
  refine lv_if_eq (tgt := 18) hx hb dJ9_floorMod_7cf53_11 (by decide) (fun c2 => ?_) (fun c2 => ?_)
  · refine lv_iload_n hx hb dJ9_floorMod_7cf53_18 rfl (lv_at hl 0 rfl) ?_
    exact bz_iret C h hlocks hr (res := (fm_ x y, σ)) (by rw [fm_, if_neg c, if_pos c2]) dJ9_floorMod_7cf53_19
  refine lv_iload_n hx hb dJ9_floorMod_7cf53_14 rfl (lv_at hl 0 rfl) ?_
  refine lv_iload_n hx hb dJ9_floorMod_7cf53_15 rfl (lv_at hl 2 rfl) ?_
  refine lv_iadd hx hb dJ9_floorMod_7cf53_16 ?_
  exact bz_iret C h hlocks hr (res := (fm_ x y, σ)) (by rw [fm_, if_neg c, if_neg c2]) dJ9_floorMod_7cf53_17
