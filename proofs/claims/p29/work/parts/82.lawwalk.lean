/-! the walk of the law's body -/
abbrev wz_L_law : List Cond := .initialized RX6 :: wsL_law
theorem bz_law1 {p : Program} {l : Launch} {e : Env} {s : State} {m : MethodId} {b : Addr} {below : List Frame} {meth : Method} {c : Code} {H : Heap} {locs : List Loc} {cells slots pc : Nat} {ls : Array Slot} {Ts : List Cond} {G : bz_G} {σ : bz_W} (C : bz_C p s m c #[Value.ref b] cL_law 12 RL Ts G) (hA : ∀ q, bz_A G q → s.heap.size ≤ q) (h : bz_H G s σ H locs) (hcf : cells ≤ 600000 ∧ slots ≤ 7302250) (hlocks : meth.locks = false) (hr : meth.sig.returnType = ret) {v : Int32} {res : Int32 × bz_W} (hF : some (v, σ) = some res) (h1 : res.1 = 1) (hdg : decode cL_law pc = .ok (.ireturn, 1)) : W p l e room_1 s m #[Value.ref b] below meth c H locs cells slots (lw_Z below #[Value.ref b] s) (F0 m pc ls [.int v]) := by
  have e := congrArg Prod.fst (Option.some.inj hF)
  have e : v = 1 := e.trans h1
  subst e
  refine W.widen (k := 600000) (n := 7302250) hcf.1 hcf.2 ?_
  refine va_forget (fun q hq => hA _ (h.2.2.2.2 q hq)) ?_
  exact lw_ret C.1 C.2.1 hr hlocks hdg
set_option maxHeartbeats 8000000 in
set_option maxRecDepth 100000 in
theorem L_L_law_L363 {p : Program} {l : Launch} {e : Env} {s : State} {m : MethodId} {b : Addr} {below : List Frame} {meth : Method} {c : Code} {G : bz_G} (C : bz_C p s m c #[Value.ref b] cL_law 12 RL wz_L_law G) (hlocks : meth.locks = false) (hr : meth.sig.returnType = ret) (hA : ∀ q, bz_A G q → s.heap.size ≤ q) (hUp : ∀ a q, bz_A G a → a ≤ q → bz_A G q) {a1 : Nat} (hK : ∀ n, (bz_k G n).1 = 0 → n < a1 ∨ a1 + 172 < n) {L : Nat} {xs : Nat → Int32} (hX : va_X b L xs s s.heap) (hbl : b < s.heap.size) (hbA : ¬ bz_A G b) (hL : L < 2 ^ 31) (ka1 : bz_k G a1 = (7, 0)) {res : Int32 × bz_W} (h1 : res.1 = 1) {cells slots : Nat} (hcf : cells ≤ 600000 ∧ slots ≤ 7302250) {a2 : Int32} {a4 : Int32} {a5 : Int32} {a7 : Int32} {a8 : Int64}  {k : Int32 → bz_W → Option (Int32 × bz_W)} : ∀ (n : Nat) (v10 : Int32) (v11 : Int32) (σ : bz_W) (H : Heap) (locs : List Loc) (ls : Array Slot), f_L_law_L363 L xs a1 a2 a4 a5 a7 a8 k n v10 v11 σ = some res → bz_H G s σ H locs → lv_has ls 12 [(0, .ref b), (1, .ref a1), (2, .int a2), (4, .int a4), (5, .int a5), (7, .int a7), (8, .long a8), (10, .int v10), (11, .int v11)] → (∀ (w10 : Int32) (σ : bz_W) (H : Heap) (locs : List Loc) (ls : Array Slot), k w10 σ = some res → bz_H G s σ H locs → lv_has ls 12 [(0, .ref b), (1, .ref a1), (2, .int a2), (4, .int a4), (5, .int a5), (7, .int a7), (8, .long a8), (10, .int w10)] → W p l e room_1 s m #[Value.ref b] below meth c H locs cells slots (lw_Z below #[Value.ref b] s) (F0 m 385 ls [])) → W p l e room_1 s m #[Value.ref b] below meth c H locs cells slots (lw_Z below #[Value.ref b] s) (F0 m 363 ls []) := by
  have hx := C.1
  have hb := C.2.1
  have hts := C.2.2.2.2.1
  intro n
  induction n with
  | zero =>
    intro v10 v11 σ H locs ls hF
    exact absurd hF (by simp [f_L_law_L363])
  | succ n ih =>
    intro v10 v11 σ H locs ls hF h hl hk
    rw [f_L_law_L363] at hF
    refine lv_iload hx hb dL_law_363 (lv_at hl 8 rfl) ?_
    refine lv_if_lt (tgt := 385) hx hb dL_law_365 (by decide) (fun c116 => ?_) (fun c116 => ?_)
    · have hF := it_t hF c116
      exact hk _ _ H locs ls hF h (lv_sub hl [0, 1, 2, 3, 4, 5, 6, 7] rfl)
    · have hF := it_f hF c116
      refine lv_iload hx hb dL_law_368 (lv_at hl 7 rfl) ?_
      refine lv_if_eq (tgt := 385) hx hb dL_law_370 (by decide) (fun c117 => ?_) (fun c117 => ?_)
      · have hF := it_t hF c117
        exact hk _ _ H locs ls hF h (lv_sub hl [0, 1, 2, 3, 4, 5, 6, 7] rfl)
      · have hF := it_f hF c117
        refine lv_aload_n hx hb dL_law_373 rfl (lv_at hl 1 rfl) ?_
        obtain ⟨r118, σ119, qr118, hF⟩ := bd_u hF
        refine bz_callS (rest := []) (st1 := [.int r118]) C h (As := [.ref a1]) (o := some (.int r118)) (τ := σ119) (c_L_second (l := l) ka1 (res := (r118, σ119)) qr118) (va_cwS 1 hts (bz_gS wd_24_0 wd_24_1 wd_20_14 wd_24_2) rfl rfl rfl (by decide +kernel) ⟨Nat.le_of_ble_eq_true rfl, Nat.le_of_ble_eq_true rfl⟩) rfl hl.1 rfl (by decide) hcf dL_law_374 rfl (fun H locs h => ?_)
        refine lv_istore (lv' := [(10, .int r118), (0, .ref b), (1, .ref a1), (2, .int a2), (4, .int a4), (5, .int a5), (7, .int a7), (8, .long a8), (11, .int v11)]) hx hb dL_law_377 hl (by decide) rfl (fun ls hl => ?_)
        obtain ⟨x120, ex120⟩ : ∃ y : Int32, y = v11 + (-1) := ⟨_, rfl⟩
        have hF := lt_u hF x120 ex120
        refine lv_iinc (v := x120) (lv' := [(11, .int x120), (10, .int r118), (0, .ref b), (1, .ref a1), (2, .int a2), (4, .int a4), (5, .int a5), (7, .int a7), (8, .long a8)]) hx hb dL_law_379 hl (k := 8) rfl (by rw [ex120]; rfl) (by decide) rfl (fun ls hl => ?_)
        refine lv_goto (tgt := 363) hx hb dL_law_382 (by decide) ?_
        exact ih _ _ _ H locs ls hF h (lv_sub hl [2, 3, 4, 5, 6, 7, 8, 1, 0] rfl) hk
set_option maxHeartbeats 8000000 in
set_option maxRecDepth 100000 in
theorem L_L_law_L91 {p : Program} {l : Launch} {e : Env} {s : State} {m : MethodId} {b : Addr} {below : List Frame} {meth : Method} {c : Code} {G : bz_G} (C : bz_C p s m c #[Value.ref b] cL_law 12 RL wz_L_law G) (hlocks : meth.locks = false) (hr : meth.sig.returnType = ret) (hA : ∀ q, bz_A G q → s.heap.size ≤ q) (hUp : ∀ a q, bz_A G a → a ≤ q → bz_A G q) {a1 : Nat} (hK : ∀ n, (bz_k G n).1 = 0 → n < a1 ∨ a1 + 172 < n) {L : Nat} {xs : Nat → Int32} (hX : va_X b L xs s s.heap) (hbl : b < s.heap.size) (hbA : ¬ bz_A G b) (hL : L < 2 ^ 31) (ka1 : bz_k G a1 = (7, 0))  {k : bz_W → Option (Int32 × bz_W)} : ∀ (n cells slots : Nat) (hcs : cells + n ≤ 3000 ∧ slots + 8 * n ≤ 30000) (v2 : Int32) (σ : bz_W) (H : Heap) (locs : List Loc) (ls : Array Slot) (res : Int32 × bz_W), res.1 = 1 → f_L_law_L91 L xs a1 k n v2 σ = some res → bz_H G s σ H locs → lv_has ls 12 [(0, .ref b), (1, .ref a1), (2, .int v2)] → (∀ (cells slots : Nat) (hcf : cells ≤ 600000 ∧ slots ≤ 7302250) (σ : bz_W) (H : Heap) (locs : List Loc) (ls : Array Slot) (res : Int32 × bz_W), res.1 = 1 → k σ = some res → bz_H G s σ H locs → lv_has ls 12 [] → W p l e room_1 s m #[Value.ref b] below meth c H locs cells slots (lw_Z below #[Value.ref b] s) (F0 m 514 ls [])) → W p l e room_1 s m #[Value.ref b] below meth c H locs cells slots (lw_Z below #[Value.ref b] s) (F0 m 91 ls []) := by
  have hx := C.1
  have hb := C.2.1
  have hts := C.2.2.2.2.1
  intro n
  induction n with
  | zero =>
    intro cells slots hcs v2 σ H locs ls res h1 hF
    exact absurd hF (by simp [f_L_law_L91])
  | succ n ih =>
    intro cells slots hcs v2 σ H locs ls res h1 hF h hl hk
    obtain ⟨hc1, hc2⟩ := hcs
    have hcf : cells ≤ 600000 ∧ slots ≤ 7302250 := ⟨by omega, by omega⟩
    rw [f_L_law_L91] at hF
    refine lv_iload_n hx hb dL_law_91 rfl (lv_at hl 2 rfl) ?_
    refine lv_bipush (v := 26) hx hb dL_law_92 (by decide) ?_
    refine lv_icmp_ge (tgt := 514) hx hb dL_law_94 (by decide) (fun c25 => ?_) (fun c25 => ?_)
    · have hF := it_t hF c25
      exact hk cells slots hcf _ H locs ls _ h1 hF h (lv_sub hl [] rfl)
    · have hF := it_f hF c25
      refine lv_aload_n hx hb dL_law_97 rfl (lv_at hl 0 rfl) ?_
      refine lv_iconst (v := 2) hx hb dL_law_98 (by decide) ?_
      refine lv_iload_n hx hb dL_law_99 rfl (lv_at hl 2 rfl) ?_
      refine lv_imul hx hb dL_law_100 ?_
      obtain ⟨c26, hF⟩ := ck_u hF
      refine bz_callC (xs := xs) C h hX hbl hbA hL (of_decide_eq_true c26) (va_cwS 2 hts (bz_gS wd_20_12 wd_20_13 wd_20_14 wd_20_15) rfl rfl rfl (by decide +kernel) ⟨Nat.le_of_ble_eq_true rfl, Nat.le_of_ble_eq_true rfl⟩) hl.1 (Nat.le_of_ble_eq_true rfl) hcf dL_law_101 (fun H locs h => ?_)
      refine lv_topi (fun x27 ex27 => ?_)
      have hF := lt_u hF x27 ex27
      refine lv_istore_n (lv' := [(3, .int x27), (0, .ref b), (1, .ref a1), (2, .int v2)]) hx hb dL_law_104 rfl hl (by decide) rfl (fun ls hl => ?_)
      refine lv_aload_n hx hb dL_law_105 rfl (lv_at hl 1 rfl) ?_
      refine lv_iconst (v := 2) hx hb dL_law_106 (by decide) ?_
      refine lv_iload_n hx hb dL_law_107 rfl (lv_at hl 3 rfl) ?_
      refine lv_imul hx hb dL_law_108 ?_
      refine lv_iconst (v := 1) hx hb dL_law_109 (by decide) ?_
      refine lv_iadd hx hb dL_law_110 ?_
      obtain ⟨c28, hF⟩ := ck_u hF
      refine bz_callC (xs := xs) C h hX hbl hbA hL (of_decide_eq_true c28) (va_cwS 2 hts (bz_gS wd_20_12 wd_20_13 wd_20_14 wd_20_15) rfl rfl rfl (by decide +kernel) ⟨Nat.le_of_ble_eq_true rfl, Nat.le_of_ble_eq_true rfl⟩) hl.1 (Nat.le_of_ble_eq_true rfl) hcf dL_law_111 (fun H locs h => ?_)
      refine lv_topi (fun x29 ex29 => ?_)
      have hF := lt_u hF x29 ex29
      refine lv_istore (lv' := [(4, .int x29), (3, .int x27), (0, .ref b), (1, .ref a1), (2, .int v2)]) hx hb dL_law_114 hl (by decide) rfl (fun ls hl => ?_)
      refine lv_iload_n hx hb dL_law_116 rfl (lv_at hl 1 rfl) ?_
      refine lv_bipush (v := 9) hx hb dL_law_117 (by decide) ?_
      refine lv_ishr hx hb dL_law_119 ?_
      refine lv_bipush (v := 13) hx hb dL_law_120 (by decide) ?_
      obtain ⟨r30, σ31, qr30, hF⟩ := bd_u hF
      refine bz_callS (rest := []) (st1 := [.int r30]) C h (As := [.int (x27 >>> (9 &&& 31)), .int 13]) (o := some (.int r30)) (τ := σ31) (c_L_low (l := l)  (res := (r30, σ31)) qr30) (va_cwS 2 hts (bz_gS wd_20_17 wd_20_18 wd_20_14 wd_20_19) rfl rfl rfl (by decide +kernel) ⟨Nat.le_of_ble_eq_true rfl, Nat.le_of_ble_eq_true rfl⟩) rfl hl.1 rfl (by decide) hcf dL_law_122 rfl (fun H locs h => ?_)
      refine lv_istore (lv' := [(5, .int r30), (4, .int x29), (3, .int x27), (0, .ref b), (1, .ref a1), (2, .int v2)]) hx hb dL_law_125 hl (by decide) rfl (fun ls hl => ?_)
      refine lv_aload_n hx hb dL_law_127 rfl (lv_at hl 4 rfl) ?_
      refine lv_iconst (v := 0) hx hb dL_law_128 (by decide) ?_
      obtain ⟨r32, σ33, qr32, hF⟩ := bd_u hF
      refine bz_callV (rest := []) (st1 := [.int r32]) C h (As := [.int 0]) (o := some (.int r32)) (τ := σ33) (c_X6_count (l := l) ka1 (res := (r32, σ33)) qr32) ka1 (by decide) (ci := 6) rfl (cwV 1 hts (bz_gV wd_16_2 wd_16_3 wd_16_4 wd_1_2 wd_16_5) rfl rfl rfl (by decide +kernel) ⟨Nat.le_of_ble_eq_true rfl, Nat.le_of_ble_eq_true rfl⟩) rfl hl.1 rfl (by decide) hcf dL_law_129 rfl (fun H locs h => ?_)
      refine lv_istore (lv' := [(6, .int r32), (5, .int r30), (4, .int x29), (3, .int x27), (0, .ref b), (1, .ref a1), (2, .int v2)]) hx hb dL_law_132 hl (by decide) rfl (fun ls hl => ?_)
      refine lv_aload_n hx hb dL_law_134 rfl (lv_at hl 5 rfl) ?_
      refine lv_bipush (v := 16) hx hb dL_law_135 (by decide) ?_
      obtain ⟨r34, σ35, qr34, hF⟩ := bd_u hF
      refine bz_callV (rest := []) (st1 := [.int r34]) C h (As := [.int 16]) (o := some (.int r34)) (τ := σ35) (c_X6_count (l := l) ka1 (res := (r34, σ35)) qr34) ka1 (by decide) (ci := 6) rfl (cwV 1 hts (bz_gV wd_16_2 wd_16_3 wd_16_4 wd_1_2 wd_16_5) rfl rfl rfl (by decide +kernel) ⟨Nat.le_of_ble_eq_true rfl, Nat.le_of_ble_eq_true rfl⟩) rfl hl.1 rfl (by decide) hcf dL_law_137 rfl (fun H locs h => ?_)
      refine lv_istore (lv' := [(7, .int r34), (6, .int r32), (5, .int r30), (4, .int x29), (3, .int x27), (0, .ref b), (1, .ref a1), (2, .int v2)]) hx hb dL_law_140 hl (by decide) rfl (fun ls hl => ?_)
      refine lv_aload_n hx hb dL_law_142 rfl (lv_at hl 6 rfl) ?_
      obtain ⟨r36, σ37, qr36, hF⟩ := bd_u hF
      refine bz_callS (rest := []) (st1 := [.long r36]) C h (As := [.ref a1]) (o := some (.long r36)) (τ := σ37) (c_L_digest (l := l) ka1 (res := (r36, σ37)) qr36) (va_cwS 1 hts (bz_gS wd_20_21 wd_20_22 wd_20_14 wd_20_23) rfl rfl rfl (by decide +kernel) ⟨Nat.le_of_ble_eq_true rfl, Nat.le_of_ble_eq_true rfl⟩) rfl hl.1 rfl (by decide) hcf dL_law_143 rfl (fun H locs h => ?_)
      refine lv_lstore (lv' := [(8, .long r36), (7, .int r34), (6, .int r32), (5, .int r30), (4, .int x29), (3, .int x27), (0, .ref b), (1, .ref a1), (2, .int v2)]) hx hb dL_law_146 hl (by decide) rfl (fun ls hl => ?_)
      refine lv_iconst (v := 1) hx hb dL_law_148 (by decide) ?_
      refine lv_istore (lv' := [(10, .int 1), (8, .long r36), (7, .int r34), (6, .int r32), (5, .int r30), (4, .int x29), (3, .int x27), (0, .ref b), (1, .ref a1), (2, .int v2)]) hx hb dL_law_149 hl (by decide) rfl (fun ls hl => ?_)
      refine lv_iload hx hb dL_law_151 (lv_at hl 3 rfl) ?_
      obtain ⟨j40, ej40, hF⟩ := lt_j hF
      have hj40 : ∀ (x38 : Int32) (σ39 : bz_W) (H : Heap) (locs : List Loc) (ls : Array Slot), j40 x38 σ39 = some res → bz_H G s σ39 H locs → lv_has ls 12 [(0, .ref b), (1, .ref a1), (2, .int v2), (4, .int x29), (5, .int r30), (7, .int r34), (8, .long r36), (10, .int x38)] → W p l e room_1 s m #[Value.ref b] below meth c H locs cells slots (lw_Z below #[Value.ref b] s) (F0 m 385 ls []) := by
          intro x38 σ39 H locs ls hF h hl
          subst ej40
          refine lv_iload hx hb dL_law_385 (lv_at hl 5 rfl) ?_
          refine lv_iconst (v := 4) hx hb dL_law_387 (by decide) ?_
          obtain ⟨j43, ej43, hF⟩ := lt_j hF
          have hj43 : ∀ (y41 : Int32) (σ42 : bz_W) (H : Heap) (locs : List Loc) (ls : Array Slot), j43 y41 σ42 = some res → bz_H G s σ42 H locs → lv_has ls 12 [(0, .ref b), (1, .ref a1), (2, .int v2), (4, .int x29), (5, .int r30), (7, .int r34), (8, .long r36), (10, .int x38)] → W p l e room_1 s m #[Value.ref b] below meth c H locs cells slots (lw_Z below #[Value.ref b] s) (F0 m 397 ls [.int y41]) := by
              intro y41 σ42 H locs ls hF h hl
              subst ej43
              refine lv_istore (lv' := [(11, .int y41), (0, .ref b), (1, .ref a1), (2, .int v2), (4, .int x29), (5, .int r30), (7, .int r34), (8, .long r36), (10, .int x38)]) hx hb dL_law_397 hl (by decide) rfl (fun ls hl => ?_)
              refine lv_iload hx hb dL_law_399 (lv_at hl 8 rfl) ?_
              obtain ⟨j46, ej46, hF⟩ := lt_j hF
              have hj46 : ∀ (x44 : Int32) (σ45 : bz_W) (H : Heap) (locs : List Loc) (ls : Array Slot), j46 x44 σ45 = some res → bz_H G s σ45 H locs → lv_has ls 12 [(0, .ref b), (1, .ref a1), (2, .int v2), (10, .int x44)] → W p l e room_1 s m #[Value.ref b] below meth c H locs cells slots (lw_Z below #[Value.ref b] s) (F0 m 494 ls []) := by
                  intro x44 σ45 H locs ls hF h hl
                  subst ej46
                  refine lv_iload hx hb dL_law_494 (lv_at hl 3 rfl) ?_
                  refine lv_if_eq (tgt := 506) hx hb dL_law_496 (by decide) (fun c47 => ?_) (fun c47 => ?_)
                  · have hF := it_t hF c47
                    refine lv_iconst (v := 0) hx hb dL_law_506 (by decide) ?_
                    exact bz_law1 C hA h hcf hlocks hr hF h1 dL_law_507
                  · have hF := it_f hF c47
                    refine lv_aload_n hx hb dL_law_499 rfl (lv_at hl 1 rfl) ?_
                    have hF := sb_u hF
                    refine bz_callSd (rest := []) C h (c_L_sound (l := l) ka1 hUp hK (fun n hn => by obtain ⟨v, ρ, τ, g1, g2, -⟩ := hF n hn; exact ⟨v, ρ, g1, g2⟩)) (va_cwS 1 hts (bz_gS wd_24_10 wd_24_11 wd_20_14 wd_24_12) rfl rfl rfl (by decide +kernel) ⟨Nat.le_of_ble_eq_true rfl, Nat.le_of_ble_eq_true rfl⟩) hl.1 (Nat.le_of_ble_eq_true rfl) ⟨(show cells + 1 ≤ 600000 by omega), (show slots + 8 ≤ 7302250 by omega)⟩ dL_law_500 (fun na r48 ρ hna e1 _ H locs h => ?_)
                    obtain ⟨v9, ρ9, τ9, g1, -, hF⟩ := hF na hna
                    obtain ⟨rfl, rfl⟩ := Prod.mk.inj (Option.some.inj (e1.symm.trans g1))
                    have h1 : ((1 : Int32), τ9).1 = 1 := rfl
                    obtain ⟨σ49, eσ49⟩ : ∃ y : bz_W, y = bz_wb ρ na (σ45.1 na) := ⟨_, rfl⟩
                    rw [← eσ49] at h hF
                    have hcf : cells + 1 ≤ 600000 ∧ slots + 8 ≤ 7302250 := ⟨by omega, by omega⟩
                    refine lv_if_ne (tgt := 508) hx hb dL_law_503 (by decide) (fun c50 => ?_) (fun c50 => ?_)
                    · have hF := it_f hF c50
                      obtain ⟨x51, ex51⟩ : ∃ y : Int32, y = v2 + 1 := ⟨_, rfl⟩
                      have hF := lt_u hF x51 ex51
                      refine lv_iinc (v := x51) (lv' := [(2, .int x51), (0, .ref b), (1, .ref a1), (10, .int x44)]) hx hb dL_law_508 hl (k := 2) rfl (by rw [ex51]; rfl) (by decide) rfl (fun ls hl => ?_)
                      refine lv_goto (tgt := 91) hx hb dL_law_511 (by decide) ?_
                      exact ih (cells + 1) (slots + 8) ⟨by omega, by omega⟩ _ _ H locs ls _ h1 hF h (lv_sub hl [1, 2, 0] rfl) hk
                    · have hF := it_t hF c50
                      refine lv_iconst (v := 0) hx hb dL_law_506 (by decide) ?_
                      exact bz_law1 C hA h hcf hlocks hr hF h1 dL_law_507
              obtain ⟨j53, ej53, hF⟩ := lt_j hF
              have hj53 : ∀ (σ52 : bz_W) (H : Heap) (locs : List Loc) (ls : Array Slot), j53 σ52 = some res → bz_H G s σ52 H locs → lv_has ls 12 [(0, .ref b), (1, .ref a1), (2, .int v2), (8, .long r36), (11, .int y41)] → W p l e room_1 s m #[Value.ref b] below meth c H locs cells slots (lw_Z below #[Value.ref b] s) (F0 m 468 ls []) := by
                  intro σ52 H locs ls hF h hl
                  subst ej53
                  refine lv_aload_n hx hb dL_law_468 rfl (lv_at hl 1 rfl) ?_
                  obtain ⟨r54, σ55, qr54, hF⟩ := bd_u hF
                  refine bz_callV (rest := []) (st1 := [.int r54]) C h (As := []) (o := some (.int r54)) (τ := σ55) (c_X6_undo (l := l) ka1 (res := (r54, σ55)) qr54) ka1 (by decide) (ci := 6) rfl (cwV 0 hts (bz_gV wd_4_6 wd_4_7 wd_4_8 wd_1_2 wd_4_9) rfl rfl rfl (by decide +kernel) ⟨Nat.le_of_ble_eq_true rfl, Nat.le_of_ble_eq_true rfl⟩) rfl hl.1 rfl (by decide) hcf dL_law_469 rfl (fun H locs h => ?_)
                  refine lv_iload hx hb dL_law_472 (lv_at hl 4 rfl) ?_
                  obtain ⟨j58, ej58, hF⟩ := lt_j hF
                  have hj58 : ∀ (y56 : Int32) (σ57 : bz_W) (H : Heap) (locs : List Loc) (ls : Array Slot), j58 y56 σ57 = some res → bz_H G s σ57 H locs → lv_has ls 12 [(0, .ref b), (1, .ref a1), (2, .int v2)] → W p l e room_1 s m #[Value.ref b] below meth c H locs cells slots (lw_Z below #[Value.ref b] s) (F0 m 492 ls [.int y56]) := by
                      intro y56 σ57 H locs ls hF h hl
                      subst ej58
                      refine lv_istore (lv' := [(10, .int y56), (0, .ref b), (1, .ref a1), (2, .int v2)]) hx hb dL_law_492 hl (by decide) rfl (fun ls hl => ?_)
                      exact hj46 _ _ H locs ls hF h (lv_sub hl [1, 2, 3, 0] rfl)
                  obtain ⟨j60, ej60, hF⟩ := lt_j hF
                  have hj60 : ∀ (σ59 : bz_W) (H : Heap) (locs : List Loc) (ls : Array Slot), j60 σ59 = some res → bz_H G s σ59 H locs → lv_has ls 12 [(0, .ref b), (1, .ref a1), (2, .int v2)] → W p l e room_1 s m #[Value.ref b] below meth c H locs cells slots (lw_Z below #[Value.ref b] s) (F0 m 491 ls []) := by
                      intro σ59 H locs ls hF h hl
                      subst ej60
                      refine lv_iconst (v := 0) hx hb dL_law_491 (by decide) ?_
                      exact hj58 _ _ H locs ls hF h (lv_sub hl [0, 1, 2] rfl)
                  refine lv_icmp_ne (tgt := 491) hx hb dL_law_474 (by decide) (fun c61 => ?_) (fun c61 => ?_)
                  · have hF := it_f hF c61
                    exact hj60 _ H locs ls hF h (lv_sub hl [0, 1, 2] rfl)
                  · have hF := it_t hF c61
                    refine lv_aload_n hx hb dL_law_477 rfl (lv_at hl 1 rfl) ?_
                    obtain ⟨r62, σ63, qr62, hF⟩ := bd_u hF
                    refine bz_callS (rest := []) (st1 := [.long r62]) C h (As := [.ref a1]) (o := some (.long r62)) (τ := σ63) (c_L_digest (l := l) ka1 (res := (r62, σ63)) qr62) (va_cwS 1 hts (bz_gS wd_20_21 wd_20_22 wd_20_14 wd_20_23) rfl rfl rfl (by decide +kernel) ⟨Nat.le_of_ble_eq_true rfl, Nat.le_of_ble_eq_true rfl⟩) rfl hl.1 rfl (by decide) hcf dL_law_478 rfl (fun H locs h => ?_)
                    refine lv_lload hx hb dL_law_481 (lv_at hl 3 rfl) ?_
                    refine W.lcmp hx hb dL_law_483 ?_
                    refine lv_if_ne (tgt := 491) hx hb dL_law_484 (by decide) (fun c64 => ?_) (fun c64 => ?_)
                    · have hF := it_f hF c64
                      exact hj60 _ H locs ls hF h (lv_sub hl [0, 1, 2] rfl)
                    · have hF := it_t hF c64
                      refine lv_iconst (v := 1) hx hb dL_law_487 (by decide) ?_
                      refine lv_goto (tgt := 492) hx hb dL_law_488 (by decide) ?_
                      exact hj58 _ _ H locs ls hF h (lv_sub hl [0, 1, 2] rfl)
              obtain ⟨j66, ej66, hF⟩ := lt_j hF
              have hj66 : ∀ (σ65 : bz_W) (H : Heap) (locs : List Loc) (ls : Array Slot), j66 σ65 = some res → bz_H G s σ65 H locs → lv_has ls 12 [(0, .ref b), (1, .ref a1), (2, .int v2), (4, .int x29), (5, .int r30), (7, .int r34), (8, .long r36), (10, .int x38), (11, .int y41)] → W p l e room_1 s m #[Value.ref b] below meth c H locs cells slots (lw_Z below #[Value.ref b] s) (F0 m 431 ls []) := by
                  intro σ65 H locs ls hF h hl
                  subst ej66
                  refine lv_iload hx hb dL_law_431 (lv_at hl 7 rfl) ?_
                  refine lv_if_eq (tgt := 494) hx hb dL_law_433 (by decide) (fun c67 => ?_) (fun c67 => ?_)
                  · have hF := it_t hF c67
                    exact hj46 _ _ H locs ls hF h (lv_sub hl [0, 1, 2, 7] rfl)
                  · have hF := it_f hF c67
                    refine lv_iload hx hb dL_law_436 (lv_at hl 4 rfl) ?_
                    refine lv_bipush (v := 10) hx hb dL_law_438 (by decide) ?_
                    refine lv_icmp_ge (tgt := 494) hx hb dL_law_440 (by decide) (fun c68 => ?_) (fun c68 => ?_)
                    · have hF := it_t hF c68
                      exact hj46 _ _ H locs ls hF h (lv_sub hl [0, 1, 2, 7] rfl)
                    · have hF := it_f hF c68
                      refine lv_iload hx hb dL_law_443 (lv_at hl 3 rfl) ?_
                      refine lv_sipush (v := 1536) hx hb dL_law_445 (by decide) ?_
                      refine lv_iand hx hb dL_law_448 ?_
                      refine lv_if_ne (tgt := 494) hx hb dL_law_449 (by decide) (fun c69 => ?_) (fun c69 => ?_)
                      · have hF := it_f hF c69
                        exact hj46 _ _ H locs ls hF h (lv_sub hl [0, 1, 2, 7] rfl)
                      · have hF := it_t hF c69
                        refine lv_iload hx hb dL_law_452 (lv_at hl 5 rfl) ?_
                        refine lv_iconst (v := 4) hx hb dL_law_454 (by decide) ?_
                        refine lv_icmp_ne (tgt := 494) hx hb dL_law_455 (by decide) (fun c70 => ?_) (fun c70 => ?_)
                        · have hF := it_f hF c70
                          exact hj46 _ _ H locs ls hF h (lv_sub hl [0, 1, 2, 7] rfl)
                        · have hF := it_t hF c70
                          refine lv_aload_n hx hb dL_law_458 rfl (lv_at hl 1 rfl) ?_
                          obtain ⟨r71, σ72, qr71, hF⟩ := bd_u hF
                          refine bz_callS (rest := []) (st1 := [.long r71]) C h (As := [.ref a1]) (o := some (.long r71)) (τ := σ72) (c_L_digest (l := l) ka1 (res := (r71, σ72)) qr71) (va_cwS 1 hts (bz_gS wd_20_21 wd_20_22 wd_20_14 wd_20_23) rfl rfl rfl (by decide +kernel) ⟨Nat.le_of_ble_eq_true rfl, Nat.le_of_ble_eq_true rfl⟩) rfl hl.1 rfl (by decide) hcf dL_law_459 rfl (fun H locs h => ?_)
                          refine lv_lload hx hb dL_law_462 (lv_at hl 6 rfl) ?_
                          refine W.lcmp hx hb dL_law_464 ?_
                          refine lv_if_eq (tgt := 494) hx hb dL_law_465 (by decide) (fun c73 => ?_) (fun c73 => ?_)
                          · have hF := it_t hF c73
                            exact hj46 _ _ H locs ls hF h (lv_sub hl [0, 1, 2, 7] rfl)
                          · have hF := it_f hF c73
                            exact hj53 _ H locs ls hF h (lv_sub hl [0, 1, 2, 6, 8] rfl)
              refine lv_if_eq (tgt := 431) hx hb dL_law_401 (by decide) (fun c74 => ?_) (fun c74 => ?_)
              · have hF := it_t hF c74
                exact hj66 _ H locs ls hF h (lv_sub hl [1, 2, 3, 4, 5, 6, 7, 8, 0] rfl)
              · have hF := it_f hF c74
                refine lv_iload hx hb dL_law_404 (lv_at hl 5 rfl) ?_
                refine lv_bipush (v := 10) hx hb dL_law_406 (by decide) ?_
                refine lv_icmp_ge (tgt := 431) hx hb dL_law_408 (by decide) (fun c75 => ?_) (fun c75 => ?_)
                · have hF := it_t hF c75
                  exact hj66 _ H locs ls hF h (lv_sub hl [1, 2, 3, 4, 5, 6, 7, 8, 0] rfl)
                · have hF := it_f hF c75
                  refine lv_iload hx hb dL_law_411 (lv_at hl 4 rfl) ?_
                  refine lv_sipush (v := 1536) hx hb dL_law_413 (by decide) ?_
                  refine lv_iand hx hb dL_law_416 ?_
                  refine lv_if_ne (tgt := 431) hx hb dL_law_417 (by decide) (fun c76 => ?_) (fun c76 => ?_)
                  · have hF := it_f hF c76
                    exact hj66 _ H locs ls hF h (lv_sub hl [1, 2, 3, 4, 5, 6, 7, 8, 0] rfl)
                  · have hF := it_t hF c76
                    refine lv_aload_n hx hb dL_law_420 rfl (lv_at hl 2 rfl) ?_
                    refine lv_bipush (v := 16) hx hb dL_law_421 (by decide) ?_
                    obtain ⟨r77, σ78, qr77, hF⟩ := bd_u hF
                    refine bz_callV (rest := []) (st1 := [.int r77]) C h (As := [.int 16]) (o := some (.int r77)) (τ := σ78) (c_X6_count (l := l) ka1 (res := (r77, σ78)) qr77) ka1 (by decide) (ci := 6) rfl (cwV 1 hts (bz_gV wd_16_2 wd_16_3 wd_16_4 wd_1_2 wd_16_5) rfl rfl rfl (by decide +kernel) ⟨Nat.le_of_ble_eq_true rfl, Nat.le_of_ble_eq_true rfl⟩) rfl hl.1 rfl (by decide) hcf dL_law_423 rfl (fun H locs h => ?_)
                    refine lv_iload hx hb dL_law_426 (lv_at hl 6 rfl) ?_
                    refine lv_icmp_ne (tgt := 468) hx hb dL_law_428 (by decide) (fun c79 => ?_) (fun c79 => ?_)
                    · have hF := it_f hF c79
                      exact hj53 _ H locs ls hF h (lv_sub hl [1, 2, 3, 7, 0] rfl)
                    · have hF := it_t hF c79
                      exact hj66 _ H locs ls hF h (lv_sub hl [1, 2, 3, 4, 5, 6, 7, 8, 0] rfl)
          refine lv_icmp_ne (tgt := 395) hx hb dL_law_388 (by decide) (fun c80 => ?_) (fun c80 => ?_)
          · have hF := it_f hF c80
            refine lv_iload hx hb dL_law_395 (lv_at hl 5 rfl) ?_
            exact hj43 _ _ H locs ls hF h (lv_sub hl [0, 1, 2, 3, 4, 5, 6, 7] rfl)
          · have hF := it_t hF c80
            refine lv_iconst (v := 3) hx hb dL_law_391 (by decide) ?_
            refine lv_goto (tgt := 397) hx hb dL_law_392 (by decide) ?_
            exact hj43 _ _ H locs ls hF h (lv_sub hl [0, 1, 2, 3, 4, 5, 6, 7] rfl)
      obtain ⟨j82, ej82, hF⟩ := lt_j hF
      have hj82 : ∀ (σ81 : bz_W) (H : Heap) (locs : List Loc) (ls : Array Slot), j82 σ81 = some res → bz_H G s σ81 H locs → lv_has ls 12 [(0, .ref b), (1, .ref a1), (2, .int v2), (3, .int x27), (4, .int x29), (5, .int r30), (6, .int r32), (7, .int r34), (8, .long r36)] → W p l e room_1 s m #[Value.ref b] below meth c H locs cells slots (lw_Z below #[Value.ref b] s) (F0 m 161 ls []) := by
          intro σ81 H locs ls hF h hl
          subst ej82
          refine lv_aload_n hx hb dL_law_161 rfl (lv_at hl 1 rfl) ?_
          refine lv_iconst (v := 1) hx hb dL_law_162 (by decide) ?_
          refine lv_iload_n hx hb dL_law_163 rfl (lv_at hl 3 rfl) ?_
          refine lv_bipush (v := 60) hx hb dL_law_164 (by decide) ?_
          obtain ⟨r83, σ84, qr83, hF⟩ := bd_u hF
          refine bz_callS (rest := [.int 1, .ref a1]) (st1 := [.int r83, .int 1, .ref a1]) C h (As := [.int x27, .int 60]) (o := some (.int r83)) (τ := σ84) (c_L_low (l := l)  (res := (r83, σ84)) qr83) (va_cwS 2 hts (bz_gS wd_20_17 wd_20_18 wd_20_14 wd_20_19) rfl rfl rfl (by decide +kernel) ⟨Nat.le_of_ble_eq_true rfl, Nat.le_of_ble_eq_true rfl⟩) rfl hl.1 rfl (Nat.le_of_ble_eq_true rfl) hcf dL_law_166 rfl (fun H locs h => ?_)
          refine lv_iadd hx hb dL_law_169 ?_
          refine lv_iconst (v := 2) hx hb dL_law_170 (by decide) ?_
          refine lv_iload hx hb dL_law_171 (lv_at hl 4 rfl) ?_
          refine lv_bipush (v := 12) hx hb dL_law_173 (by decide) ?_
          obtain ⟨r85, σ86, qr85, hF⟩ := bd_u hF
          refine bz_callS (rest := [.int 2, .int (1 + r83), .ref a1]) (st1 := [.int r85, .int 2, .int (1 + r83), .ref a1]) C h (As := [.int x29, .int 12]) (o := some (.int r85)) (τ := σ86) (c_L_low (l := l)  (res := (r85, σ86)) qr85) (va_cwS 2 hts (bz_gS wd_20_17 wd_20_18 wd_20_14 wd_20_19) rfl rfl rfl (by decide +kernel) ⟨Nat.le_of_ble_eq_true rfl, Nat.le_of_ble_eq_true rfl⟩) rfl hl.1 rfl (Nat.le_of_ble_eq_true rfl) hcf dL_law_175 rfl (fun H locs h => ?_)
          refine lv_iadd hx hb dL_law_178 ?_
          refine lv_iconst (v := 2) hx hb dL_law_179 (by decide) ?_
          refine lv_iload_n hx hb dL_law_180 rfl (lv_at hl 3 rfl) ?_
          refine lv_bipush (v := 20) hx hb dL_law_181 (by decide) ?_
          refine lv_ishr hx hb dL_law_183 ?_
          refine lv_iconst (v := 5) hx hb dL_law_184 (by decide) ?_
          obtain ⟨r87, σ88, qr87, hF⟩ := bd_u hF
          refine bz_callS (rest := [.int 2, .int (2 + r85), .int (1 + r83), .ref a1]) (st1 := [.int r87, .int 2, .int (2 + r85), .int (1 + r83), .ref a1]) C h (As := [.int (x27 >>> (20 &&& 31)), .int 5]) (o := some (.int r87)) (τ := σ88) (c_L_low (l := l)  (res := (r87, σ88)) qr87) (va_cwS 2 hts (bz_gS wd_20_17 wd_20_18 wd_20_14 wd_20_19) rfl rfl rfl (by decide +kernel) ⟨Nat.le_of_ble_eq_true rfl, Nat.le_of_ble_eq_true rfl⟩) rfl hl.1 rfl (Nat.le_of_ble_eq_true rfl) hcf dL_law_185 rfl (fun H locs h => ?_)
          refine lv_iadd hx hb dL_law_188 ?_
          refine lv_bipush (v := 100) hx hb dL_law_189 (by decide) ?_
          refine lv_iload hx hb dL_law_191 (lv_at hl 4 rfl) ?_
          refine lv_iconst (v := 4) hx hb dL_law_193 (by decide) ?_
          refine lv_ishr hx hb dL_law_194 ?_
          refine lv_sipush (v := 30000) hx hb dL_law_195 (by decide) ?_
          obtain ⟨r89, σ90, qr89, hF⟩ := bd_u hF
          refine bz_callS (rest := [.int 100, .int (2 + r87), .int (2 + r85), .int (1 + r83), .ref a1]) (st1 := [.int r89, .int 100, .int (2 + r87), .int (2 + r85), .int (1 + r83), .ref a1]) C h (As := [.int (x29 >>> (4 &&& 31)), .int 30000]) (o := some (.int r89)) (τ := σ90) (c_L_low (l := l)  (res := (r89, σ90)) qr89) (va_cwS 2 hts (bz_gS wd_20_17 wd_20_18 wd_20_14 wd_20_19) rfl rfl rfl (by decide +kernel) ⟨Nat.le_of_ble_eq_true rfl, Nat.le_of_ble_eq_true rfl⟩) rfl hl.1 rfl (Nat.le_of_ble_eq_true rfl) hcf dL_law_198 rfl (fun H locs h => ?_)
          refine lv_iadd hx hb dL_law_201 ?_
          obtain ⟨r91, σ92, qr91, hF⟩ := bd_u hF
          refine bz_callV (rest := []) (st1 := [.int r91]) C h (As := [.int (1 + r83), .int (2 + r85), .int (2 + r87), .int (100 + r89)]) (o := some (.int r91)) (τ := σ92) (c_X6_addMotor (l := l) ka1 (res := (r91, σ92)) qr91) ka1 (by decide) (ci := 6) rfl (cwV 4 hts (bz_gV wd_21_22 wd_21_23 wd_22_0 wd_1_2 wd_22_1) rfl rfl rfl (by decide +kernel) ⟨Nat.le_of_ble_eq_true rfl, Nat.le_of_ble_eq_true rfl⟩) rfl hl.1 rfl (by decide) hcf dL_law_202 rfl (fun H locs h => ?_)
          refine lv_istore (lv' := [(11, .int r91), (0, .ref b), (1, .ref a1), (2, .int v2), (3, .int x27), (4, .int x29), (5, .int r30), (6, .int r32), (7, .int r34), (8, .long r36)]) hx hb dL_law_205 hl (by decide) rfl (fun ls hl => ?_)
          refine lv_iload hx hb dL_law_207 (lv_at hl 7 rfl) ?_
          refine lv_bipush (v := 8) hx hb dL_law_209 (by decide) ?_
          obtain ⟨j95, ej95, hF⟩ := lt_j hF
          have hj95 : ∀ (y93 : Int32) (σ94 : bz_W) (H : Heap) (locs : List Loc) (ls : Array Slot), j95 y93 σ94 = some res → bz_H G s σ94 H locs → lv_has ls 12 [(0, .ref b), (1, .ref a1), (2, .int v2), (4, .int x29), (5, .int r30), (7, .int r34), (8, .long r36)] → W p l e room_1 s m #[Value.ref b] below meth c H locs cells slots (lw_Z below #[Value.ref b] s) (F0 m 262 ls [.int y93]) := by
              intro y93 σ94 H locs ls hF h hl
              subst ej95
              refine lv_istore (lv' := [(10, .int y93), (0, .ref b), (1, .ref a1), (2, .int v2), (4, .int x29), (5, .int r30), (7, .int r34), (8, .long r36)]) hx hb dL_law_262 hl (by decide) rfl (fun ls hl => ?_)
              refine lv_goto (tgt := 385) hx hb dL_law_264 (by decide) ?_
              exact hj40 _ _ H locs ls hF h (lv_sub hl [1, 2, 3, 4, 5, 6, 7, 0] rfl)
          refine lv_icmp_ne (tgt := 239) hx hb dL_law_211 (by decide) (fun c96 => ?_) (fun c96 => ?_)
          · have hF := it_f hF c96
            refine lv_iload hx hb dL_law_239 (lv_at hl 0 rfl) ?_
            refine lv_iload hx hb dL_law_241 (lv_at hl 7 rfl) ?_
            obtain ⟨j98, ej98, hF⟩ := lt_j hF
            have hj98 : ∀ (σ97 : bz_W) (H : Heap) (locs : List Loc) (ls : Array Slot), j98 σ97 = some res → bz_H G s σ97 H locs → lv_has ls 12 [(0, .ref b), (1, .ref a1), (2, .int v2), (4, .int x29), (5, .int r30), (7, .int r34), (8, .long r36)] → W p l e room_1 s m #[Value.ref b] below meth c H locs cells slots (lw_Z below #[Value.ref b] s) (F0 m 261 ls []) := by
                intro σ97 H locs ls hF h hl
                subst ej98
                refine lv_iconst (v := 0) hx hb dL_law_261 (by decide) ?_
                exact hj95 _ _ H locs ls hF h (lv_sub hl [0, 1, 2, 3, 4, 5, 6] rfl)
            refine lv_icmp_ne (tgt := 261) hx hb dL_law_243 (by decide) (fun c99 => ?_) (fun c99 => ?_)
            · have hF := it_f hF c99
              exact hj98 _ H locs ls hF h (lv_sub hl [1, 2, 3, 5, 6, 8, 9] rfl)
            · have hF := it_t hF c99
              refine lv_aload_n hx hb dL_law_246 rfl (lv_at hl 2 rfl) ?_
              refine lv_iload hx hb dL_law_247 (lv_at hl 7 rfl) ?_
              refine lv_iconst (v := 4) hx hb dL_law_249 (by decide) ?_
              obtain ⟨r100, σ101, qr100, hF⟩ := bd_u hF
              refine bz_callV (rest := []) (st1 := [.int r100]) C h (As := [.int r32, .int 4]) (o := some (.int r100)) (τ := σ101) (c_X6_motor (l := l) ka1 (res := (r100, σ101)) qr100) ka1 (by decide) (ci := 6) rfl (cwV 2 hts (bz_gV wd_21_4 wd_21_5 wd_21_6 wd_1_2 wd_21_7) rfl rfl rfl (by decide +kernel) ⟨Nat.le_of_ble_eq_true rfl, Nat.le_of_ble_eq_true rfl⟩) rfl hl.1 rfl (by decide) hcf dL_law_250 rfl (fun H locs h => ?_)
              refine lv_iconst (v := 5) hx hb dL_law_253 (by decide) ?_
              refine lv_icmp_ne (tgt := 261) hx hb dL_law_254 (by decide) (fun c102 => ?_) (fun c102 => ?_)
              · have hF := it_f hF c102
                exact hj98 _ H locs ls hF h (lv_sub hl [1, 2, 3, 5, 6, 8, 9] rfl)
              · have hF := it_t hF c102
                refine lv_iconst (v := 1) hx hb dL_law_257 (by decide) ?_
                refine lv_goto (tgt := 262) hx hb dL_law_258 (by decide) ?_
                exact hj95 _ _ H locs ls hF h (lv_sub hl [1, 2, 3, 5, 6, 8, 9] rfl)
          · have hF := it_t hF c96
            refine lv_iload hx hb dL_law_214 (lv_at hl 0 rfl) ?_
            refine lv_bipush (v := (-3)) hx hb dL_law_216 (by decide) ?_
            obtain ⟨j104, ej104, hF⟩ := lt_j hF
            have hj104 : ∀ (σ103 : bz_W) (H : Heap) (locs : List Loc) (ls : Array Slot), j104 σ103 = some res → bz_H G s σ103 H locs → lv_has ls 12 [(0, .ref b), (1, .ref a1), (2, .int v2), (4, .int x29), (5, .int r30), (7, .int r34), (8, .long r36)] → W p l e room_1 s m #[Value.ref b] below meth c H locs cells slots (lw_Z below #[Value.ref b] s) (F0 m 235 ls []) := by
                intro σ103 H locs ls hF h hl
                subst ej104
                refine lv_iconst (v := 0) hx hb dL_law_235 (by decide) ?_
                refine lv_goto (tgt := 262) hx hb dL_law_236 (by decide) ?_
                exact hj95 _ _ H locs ls hF h (lv_sub hl [0, 1, 2, 3, 4, 5, 6] rfl)
            refine lv_icmp_ne (tgt := 235) hx hb dL_law_218 (by decide) (fun c105 => ?_) (fun c105 => ?_)
            · have hF := it_f hF c105
              exact hj104 _ H locs ls hF h (lv_sub hl [1, 2, 3, 5, 6, 8, 9] rfl)
            · have hF := it_t hF c105
              refine lv_aload_n hx hb dL_law_221 rfl (lv_at hl 2 rfl) ?_
              refine lv_bipush (v := 8) hx hb dL_law_222 (by decide) ?_
              obtain ⟨r106, σ107, qr106, hF⟩ := bd_u hF
              refine bz_callV (rest := []) (st1 := [.int r106]) C h (As := [.int 8]) (o := some (.int r106)) (τ := σ107) (c_X6_count (l := l) ka1 (res := (r106, σ107)) qr106) ka1 (by decide) (ci := 6) rfl (cwV 1 hts (bz_gV wd_16_2 wd_16_3 wd_16_4 wd_1_2 wd_16_5) rfl rfl rfl (by decide +kernel) ⟨Nat.le_of_ble_eq_true rfl, Nat.le_of_ble_eq_true rfl⟩) rfl hl.1 rfl (by decide) hcf dL_law_224 rfl (fun H locs h => ?_)
              refine lv_iconst (v := 5) hx hb dL_law_227 (by decide) ?_
              refine lv_icmp_ne (tgt := 235) hx hb dL_law_228 (by decide) (fun c108 => ?_) (fun c108 => ?_)
              · have hF := it_f hF c108
                exact hj104 _ H locs ls hF h (lv_sub hl [1, 2, 3, 5, 6, 8, 9] rfl)
              · have hF := it_t hF c108
                refine lv_iconst (v := 1) hx hb dL_law_231 (by decide) ?_
                refine lv_goto (tgt := 262) hx hb dL_law_232 (by decide) ?_
                exact hj95 _ _ H locs ls hF h (lv_sub hl [1, 2, 3, 5, 6, 8, 9] rfl)
      refine lv_if_eq (tgt := 161) hx hb dL_law_153 (by decide) (fun c109 => ?_) (fun c109 => ?_)
      · have hF := it_t hF c109
        exact hj82 _ H locs ls hF h (lv_sub hl [7, 8, 9, 6, 5, 4, 3, 2, 1] rfl)
      · have hF := it_f hF c109
        refine lv_iload hx hb dL_law_156 (lv_at hl 4 rfl) ?_
        refine lv_if_ne (tgt := 267) hx hb dL_law_158 (by decide) (fun c110 => ?_) (fun c110 => ?_)
        · have hF := it_f hF c110
          refine lv_iload hx hb dL_law_267 (lv_at hl 4 rfl) ?_
          refine lv_iconst (v := 4) hx hb dL_law_269 (by decide) ?_
          refine lv_icmp_ge (tgt := 292) hx hb dL_law_270 (by decide) (fun c111 => ?_) (fun c111 => ?_)
          · have hF := it_t hF c111
            refine lv_iload hx hb dL_law_292 (lv_at hl 4 rfl) ?_
            refine lv_bipush (v := 10) hx hb dL_law_294 (by decide) ?_
            refine lv_icmp_ge (tgt := 318) hx hb dL_law_296 (by decide) (fun c112 => ?_) (fun c112 => ?_)
            · have hF := it_t hF c112
              refine lv_iload hx hb dL_law_318 (lv_at hl 4 rfl) ?_
              refine lv_bipush (v := 10) hx hb dL_law_320 (by decide) ?_
              refine lv_icmp_ne (tgt := 355) hx hb dL_law_322 (by decide) (fun c113 => ?_) (fun c113 => ?_)
              · have hF := it_f hF c113
                refine lv_iload hx hb dL_law_355 (lv_at hl 5 rfl) ?_
                refine lv_iconst (v := 5) hx hb dL_law_357 (by decide) ?_
                obtain ⟨r114, σ115, qr114, hF⟩ := bd_u hF
                refine bz_callS (rest := []) (st1 := [.int r114]) C h (As := [.int x29, .int 5]) (o := some (.int r114)) (τ := σ115) (c_L_low (l := l)  (res := (r114, σ115)) qr114) (va_cwS 2 hts (bz_gS wd_20_17 wd_20_18 wd_20_14 wd_20_19) rfl rfl rfl (by decide +kernel) ⟨Nat.le_of_ble_eq_true rfl, Nat.le_of_ble_eq_true rfl⟩) rfl hl.1 rfl (by decide) hcf dL_law_358 rfl (fun H locs h => ?_)
                refine lv_istore (lv' := [(11, .int r114), (10, .int 1), (8, .long r36), (7, .int r34), (6, .int r32), (5, .int r30), (4, .int x29), (3, .int x27), (0, .ref b), (1, .ref a1), (2, .int v2)]) hx hb dL_law_361 hl (by decide) rfl (fun ls hl => ?_)
                refine L_L_law_L363 C hlocks hr hA hUp hK hX hbl hbA hL ka1 h1 hcf _ _ _ _ H locs ls hF h (lv_sub hl [8, 9, 10, 6, 5, 3, 2, 1, 0] rfl) ?_
                intro x121 σ122 H locs ls hF h hl
                exact hj40 _ _ H locs ls hF h (lv_sub hl [0, 1, 2, 3, 4, 5, 6, 7] rfl)
              · have hF := it_t hF c113
                refine lv_aload_n hx hb dL_law_325 rfl (lv_at hl 8 rfl) ?_
                refine lv_iconst (v := 1) hx hb dL_law_326 (by decide) ?_
                refine lv_iload hx hb dL_law_327 (lv_at hl 5 rfl) ?_
                refine lv_bipush (v := 9) hx hb dL_law_329 (by decide) ?_
                obtain ⟨r123, σ124, qr123, hF⟩ := bd_u hF
                refine bz_callS (rest := [.int 1, .ref a1]) (st1 := [.int r123, .int 1, .ref a1]) C h (As := [.int x29, .int 9]) (o := some (.int r123)) (τ := σ124) (c_L_low (l := l)  (res := (r123, σ124)) qr123) (va_cwS 2 hts (bz_gS wd_20_17 wd_20_18 wd_20_14 wd_20_19) rfl rfl rfl (by decide +kernel) ⟨Nat.le_of_ble_eq_true rfl, Nat.le_of_ble_eq_true rfl⟩) rfl hl.1 rfl (Nat.le_of_ble_eq_true rfl) hcf dL_law_331 rfl (fun H locs h => ?_)
                refine lv_iadd hx hb dL_law_334 ?_
                refine lv_iconst (v := 1) hx hb dL_law_335 (by decide) ?_
                refine lv_iload hx hb dL_law_336 (lv_at hl 5 rfl) ?_
                refine lv_bipush (v := 8) hx hb dL_law_338 (by decide) ?_
                refine lv_ishr hx hb dL_law_340 ?_
                refine lv_bipush (v := 9) hx hb dL_law_341 (by decide) ?_
                obtain ⟨r125, σ126, qr125, hF⟩ := bd_u hF
                refine bz_callS (rest := [.int 1, .int (1 + r123), .ref a1]) (st1 := [.int r125, .int 1, .int (1 + r123), .ref a1]) C h (As := [.int (x29 >>> (8 &&& 31)), .int 9]) (o := some (.int r125)) (τ := σ126) (c_L_low (l := l)  (res := (r125, σ126)) qr125) (va_cwS 2 hts (bz_gS wd_20_17 wd_20_18 wd_20_14 wd_20_19) rfl rfl rfl (by decide +kernel) ⟨Nat.le_of_ble_eq_true rfl, Nat.le_of_ble_eq_true rfl⟩) rfl hl.1 rfl (Nat.le_of_ble_eq_true rfl) hcf dL_law_343 rfl (fun H locs h => ?_)
                refine lv_iadd hx hb dL_law_346 ?_
                obtain ⟨r127, σ128, qr127, hF⟩ := bd_u hF
                refine bz_callS (rest := []) (st1 := [.int r127]) C h (As := [.ref a1, .int (1 + r123), .int (1 + r125)]) (o := some (.int r127)) (τ := σ128) (c_L_parts (l := l) ka1 (res := (r127, σ128)) qr127) (va_cwS 3 hts (bz_gS wd_23_17 wd_23_18 wd_20_14 wd_23_19) rfl rfl rfl (by decide +kernel) ⟨Nat.le_of_ble_eq_true rfl, Nat.le_of_ble_eq_true rfl⟩) rfl hl.1 rfl (by decide) hcf dL_law_347 rfl (fun H locs h => ?_)
                refine lv_istore (lv' := [(10, .int r127), (8, .long r36), (7, .int r34), (6, .int r32), (5, .int r30), (4, .int x29), (3, .int x27), (0, .ref b), (1, .ref a1), (2, .int v2)]) hx hb dL_law_350 hl (by decide) rfl (fun ls hl => ?_)
                refine lv_goto (tgt := 385) hx hb dL_law_352 (by decide) ?_
                exact hj40 _ _ H locs ls hF h (lv_sub hl [7, 8, 9, 5, 4, 2, 1, 0] rfl)
            · have hF := it_f hF c112
              refine lv_aload_n hx hb dL_law_299 rfl (lv_at hl 8 rfl) ?_
              refine lv_iload hx hb dL_law_300 (lv_at hl 4 rfl) ?_
              refine lv_iload_n hx hb dL_law_302 rfl (lv_at hl 6 rfl) ?_
              refine lv_iload hx hb dL_law_303 (lv_at hl 3 rfl) ?_
              obtain ⟨r129, σ130, qr129, hF⟩ := bd_u hF
              refine bz_callS (rest := [.int r30, .ref a1]) (st1 := [.int r129, .int r30, .ref a1]) C h (As := [.int x27, .int r32]) (o := some (.int r129)) (τ := σ130) (c_L_low (l := l)  (res := (r129, σ130)) qr129) (va_cwS 2 hts (bz_gS wd_20_17 wd_20_18 wd_20_14 wd_20_19) rfl rfl rfl (by decide +kernel) ⟨Nat.le_of_ble_eq_true rfl, Nat.le_of_ble_eq_true rfl⟩) rfl hl.1 rfl (Nat.le_of_ble_eq_true rfl) hcf dL_law_305 rfl (fun H locs h => ?_)
              refine lv_iload hx hb dL_law_308 (lv_at hl 5 rfl) ?_
              obtain ⟨r131, σ132, qr131, hF⟩ := bd_u hF
              refine bz_callS (rest := []) (st1 := [.int r131]) C h (As := [.ref a1, .int r30, .int r129, .int x29]) (o := some (.int r131)) (τ := σ132) (c_L_orders (l := l) ka1 (res := (r131, σ132)) qr131) (va_cwS 4 hts (bz_gS wd_23_2 wd_23_3 wd_20_14 wd_23_4) rfl rfl rfl (by decide +kernel) ⟨Nat.le_of_ble_eq_true rfl, Nat.le_of_ble_eq_true rfl⟩) rfl hl.1 rfl (by decide) hcf dL_law_310 rfl (fun H locs h => ?_)
              refine lv_istore (lv' := [(10, .int r131), (8, .long r36), (7, .int r34), (6, .int r32), (5, .int r30), (4, .int x29), (3, .int x27), (0, .ref b), (1, .ref a1), (2, .int v2)]) hx hb dL_law_313 hl (by decide) rfl (fun ls hl => ?_)
              refine lv_goto (tgt := 385) hx hb dL_law_315 (by decide) ?_
              exact hj40 _ _ H locs ls hF h (lv_sub hl [7, 8, 9, 5, 4, 2, 1, 0] rfl)
          · have hF := it_f hF c111
            refine lv_aload_n hx hb dL_law_273 rfl (lv_at hl 8 rfl) ?_
            refine lv_iload hx hb dL_law_274 (lv_at hl 4 rfl) ?_
            refine lv_iload_n hx hb dL_law_276 rfl (lv_at hl 6 rfl) ?_
            refine lv_iload hx hb dL_law_277 (lv_at hl 3 rfl) ?_
            obtain ⟨r133, σ134, qr133, hF⟩ := bd_u hF
            refine bz_callS (rest := [.int r30, .ref a1]) (st1 := [.int r133, .int r30, .ref a1]) C h (As := [.int x27, .int r32]) (o := some (.int r133)) (τ := σ134) (c_L_low (l := l)  (res := (r133, σ134)) qr133) (va_cwS 2 hts (bz_gS wd_20_17 wd_20_18 wd_20_14 wd_20_19) rfl rfl rfl (by decide +kernel) ⟨Nat.le_of_ble_eq_true rfl, Nat.le_of_ble_eq_true rfl⟩) rfl hl.1 rfl (Nat.le_of_ble_eq_true rfl) hcf dL_law_279 rfl (fun H locs h => ?_)
            refine lv_iload hx hb dL_law_282 (lv_at hl 5 rfl) ?_
            obtain ⟨r135, σ136, qr135, hF⟩ := bd_u hF
            refine bz_callS (rest := []) (st1 := [.int r135]) C h (As := [.ref a1, .int r30, .int r133, .int x29]) (o := some (.int r135)) (τ := σ136) (c_L_sets (l := l) ka1 (res := (r135, σ136)) qr135) (va_cwS 4 hts (bz_gS wd_22_11 wd_22_12 wd_20_14 wd_22_13) rfl rfl rfl (by decide +kernel) ⟨Nat.le_of_ble_eq_true rfl, Nat.le_of_ble_eq_true rfl⟩) rfl hl.1 rfl (by decide) hcf dL_law_284 rfl (fun H locs h => ?_)
            refine lv_istore (lv' := [(10, .int r135), (8, .long r36), (7, .int r34), (6, .int r32), (5, .int r30), (4, .int x29), (3, .int x27), (0, .ref b), (1, .ref a1), (2, .int v2)]) hx hb dL_law_287 hl (by decide) rfl (fun ls hl => ?_)
            refine lv_goto (tgt := 385) hx hb dL_law_289 (by decide) ?_
            exact hj40 _ _ H locs ls hF h (lv_sub hl [7, 8, 9, 5, 4, 2, 1, 0] rfl)
        · have hF := it_t hF c110
          exact hj82 _ H locs ls hF h (lv_sub hl [7, 8, 9, 6, 5, 4, 3, 2, 1] rfl)
set_option maxHeartbeats 8000000 in
set_option maxRecDepth 100000 in
theorem cb_L_law {p : Program} {l : Launch} {e : Env} {s : State} {m : MethodId} {b : Addr} {below : List Frame} {meth : Method} {c : Code} {G : bz_G} (C : bz_C p s m c #[Value.ref b] cL_law 12 RL wz_L_law G) (hlocks : meth.locks = false) (hr : meth.sig.returnType = ret) (hA : ∀ q, bz_A G q → s.heap.size ≤ q) (hUp : ∀ a q, bz_A G a → a ≤ q → bz_A G q) {a1 : Nat} (hK : ∀ n, (bz_k G n).1 = 0 → n < a1 ∨ a1 + 172 < n) {L : Nat} {xs : Nat → Int32} (hX : va_X b L xs s s.heap) (hbl : b < s.heap.size) (hbA : ¬ bz_A G b) (hL : L < 2 ^ 31) (ka1 : bz_k G a1 = (7, 0)) {res : Int32 × bz_W} (h1 : res.1 = 1) {cells slots : Nat} (hcs : cells ≤ 1000 ∧ slots ≤ 20000) {σ : bz_W} (hF : f_L_law_b L xs σ a1 = some res) {H : Heap} {locs : List Loc} {ls : Array Slot} (h : bz_H G s σ H locs) (hl : lv_has ls 12 [(1, .ref a1), (0, .ref b)]) : W p l e room_1 s m #[Value.ref b] below meth c H locs cells slots (lw_Z below #[Value.ref b] s) (F0 m 8 ls []) := by
  have hx := C.1
  have hb := C.2.1
  have hts := C.2.2.2.2.1
  obtain ⟨hc1, hc2⟩ := hcs
  have hcf : cells ≤ 600000 ∧ slots ≤ 7302250 := ⟨by omega, by omega⟩
  unfold f_L_law_b at hF
  refine lv_aload_n hx hb dL_law_8 rfl (lv_at hl 0 rfl) ?_
  obtain ⟨r1, σ2, qr1, hF⟩ := bd_u hF
  refine bz_callV (rest := []) (st1 := [.int r1]) C h (As := []) (o := some (.int r1)) (τ := σ2) (c_X6_undo (l := l) ka1 (res := (r1, σ2)) qr1) ka1 (by decide) (ci := 6) rfl (cwV 0 hts (bz_gV wd_4_6 wd_4_7 wd_4_8 wd_1_2 wd_4_9) rfl rfl rfl (by decide +kernel) ⟨Nat.le_of_ble_eq_true rfl, Nat.le_of_ble_eq_true rfl⟩) rfl hl.1 rfl (by decide) hcf dL_law_9 rfl (fun H locs h => ?_)
  refine lv_bipush (v := (-4)) hx hb dL_law_12 (by decide) ?_
  refine lv_icmp_ne (tgt := 87) hx hb dL_law_14 (by decide) (fun c3 => ?_) (fun c3 => ?_)
  · have hF := it_f hF c3
    refine lv_iconst (v := 0) hx hb dL_law_87 (by decide) ?_
    exact bz_law1 C hA h hcf hlocks hr hF h1 dL_law_88
  · have hF := it_t hF c3
    refine lv_aload_n hx hb dL_law_17 rfl (lv_at hl 0 rfl) ?_
    obtain ⟨r4, σ5, qr4, hF⟩ := bd_u hF
    refine bz_callV (rest := []) (st1 := [.int r4]) C h (As := []) (o := some (.int r4)) (τ := σ5) (c_X6_restore (l := l) ka1 (res := (r4, σ5)) qr4) ka1 (by decide) (ci := 6) rfl (cwV 0 hts (bz_gV wd_6_10 wd_6_11 wd_6_12 wd_1_2 wd_6_13) rfl rfl rfl (by decide +kernel) ⟨Nat.le_of_ble_eq_true rfl, Nat.le_of_ble_eq_true rfl⟩) rfl hl.1 rfl (by decide) hcf dL_law_18 rfl (fun H locs h => ?_)
    refine lv_bipush (v := (-4)) hx hb dL_law_21 (by decide) ?_
    refine lv_icmp_ne (tgt := 87) hx hb dL_law_23 (by decide) (fun c6 => ?_) (fun c6 => ?_)
    · have hF := it_f hF c6
      refine lv_iconst (v := 0) hx hb dL_law_87 (by decide) ?_
      exact bz_law1 C hA h hcf hlocks hr hF h1 dL_law_88
    · have hF := it_t hF c6
      refine lv_aload_n hx hb dL_law_26 rfl (lv_at hl 0 rfl) ?_
      refine lv_iconst (v := 0) hx hb dL_law_27 (by decide) ?_
      obtain ⟨r7, σ8, qr7, hF⟩ := bd_u hF
      refine bz_callV (rest := []) (st1 := [.int r7]) C h (As := [.int 0]) (o := some (.int r7)) (τ := σ8) (c_X6_queue (l := l) ka1 (res := (r7, σ8)) qr7) ka1 (by decide) (ci := 6) rfl (cwV 1 hts (bz_gV wd_7_1 wd_7_2 wd_7_3 wd_1_2 wd_7_4) rfl rfl rfl (by decide +kernel) ⟨Nat.le_of_ble_eq_true rfl, Nat.le_of_ble_eq_true rfl⟩) rfl hl.1 rfl (by decide) hcf dL_law_28 rfl (fun H locs h => ?_)
      refine lv_bipush (v := (-4)) hx hb dL_law_31 (by decide) ?_
      refine lv_icmp_ne (tgt := 87) hx hb dL_law_33 (by decide) (fun c9 => ?_) (fun c9 => ?_)
      · have hF := it_f hF c9
        refine lv_iconst (v := 0) hx hb dL_law_87 (by decide) ?_
        exact bz_law1 C hA h hcf hlocks hr hF h1 dL_law_88
      · have hF := it_t hF c9
        refine lv_aload_n hx hb dL_law_36 rfl (lv_at hl 0 rfl) ?_
        refine lv_iconst (v := 0) hx hb dL_law_37 (by decide) ?_
        obtain ⟨r10, σ11, qr10, hF⟩ := bd_u hF
        refine bz_callV (rest := []) (st1 := [.int r10]) C h (As := [.int 0]) (o := some (.int r10)) (τ := σ11) (c_X6_request (l := l) ka1 (res := (r10, σ11)) qr10) ka1 (by decide) (ci := 6) rfl (cwV 1 hts (bz_gV wd_7_22 wd_7_23 wd_8_0 wd_1_2 wd_8_1) rfl rfl rfl (by decide +kernel) ⟨Nat.le_of_ble_eq_true rfl, Nat.le_of_ble_eq_true rfl⟩) rfl hl.1 rfl (by decide) hcf dL_law_38 rfl (fun H locs h => ?_)
        refine lv_iconst (v := (-1)) hx hb dL_law_41 (by decide) ?_
        refine lv_icmp_ne (tgt := 87) hx hb dL_law_42 (by decide) (fun c12 => ?_) (fun c12 => ?_)
        · have hF := it_f hF c12
          refine lv_iconst (v := 0) hx hb dL_law_87 (by decide) ?_
          exact bz_law1 C hA h hcf hlocks hr hF h1 dL_law_88
        · have hF := it_t hF c12
          refine lv_aload_n hx hb dL_law_45 rfl (lv_at hl 0 rfl) ?_
          refine lv_iconst (v := 0) hx hb dL_law_46 (by decide) ?_
          refine lv_iconst (v := 0) hx hb dL_law_47 (by decide) ?_
          obtain ⟨r13, σ14, qr13, hF⟩ := bd_u hF
          refine bz_callV (rest := []) (st1 := [.int r13]) C h (As := [.int 0, .int 0]) (o := some (.int r13)) (τ := σ14) (c_X6_event (l := l) ka1 (res := (r13, σ14)) qr13) ka1 (by decide) (ci := 6) rfl (cwV 2 hts (bz_gV wd_10_20 wd_10_21 wd_10_22 wd_1_2 wd_10_23) rfl rfl rfl (by decide +kernel) ⟨Nat.le_of_ble_eq_true rfl, Nat.le_of_ble_eq_true rfl⟩) rfl hl.1 rfl (by decide) hcf dL_law_48 rfl (fun H locs h => ?_)
          refine lv_bipush (v := (-4)) hx hb dL_law_51 (by decide) ?_
          refine lv_icmp_ne (tgt := 87) hx hb dL_law_53 (by decide) (fun c15 => ?_) (fun c15 => ?_)
          · have hF := it_f hF c15
            refine lv_iconst (v := 0) hx hb dL_law_87 (by decide) ?_
            exact bz_law1 C hA h hcf hlocks hr hF h1 dL_law_88
          · have hF := it_t hF c15
            refine lv_aload_n hx hb dL_law_56 rfl (lv_at hl 0 rfl) ?_
            obtain ⟨r16, σ17, qr16, hF⟩ := bd_u hF
            refine bz_callV (rest := []) (st1 := [.int r16]) C h (As := []) (o := some (.int r16)) (τ := σ17) (c_X6_readTimetable (l := l) ka1 (res := (r16, σ17)) qr16) ka1 (by decide) (ci := 6) rfl (cwV 0 hts (bz_gV wd_11_9 wd_11_10 wd_11_11 wd_1_2 wd_11_12) rfl rfl rfl (by decide +kernel) ⟨Nat.le_of_ble_eq_true rfl, Nat.le_of_ble_eq_true rfl⟩) rfl hl.1 rfl (by decide) hcf dL_law_57 rfl (fun H locs h => ?_)
            refine lv_bipush (v := (-100)) hx hb dL_law_60 (by decide) ?_
            refine lv_icmp_ne (tgt := 87) hx hb dL_law_62 (by decide) (fun c18 => ?_) (fun c18 => ?_)
            · have hF := it_f hF c18
              refine lv_iconst (v := 0) hx hb dL_law_87 (by decide) ?_
              exact bz_law1 C hA h hcf hlocks hr hF h1 dL_law_88
            · have hF := it_t hF c18
              refine lv_aload_n hx hb dL_law_65 rfl (lv_at hl 0 rfl) ?_
              refine lv_bipush (v := 6) hx hb dL_law_66 (by decide) ?_
              obtain ⟨r19, σ20, qr19, hF⟩ := bd_u hF
              refine bz_callV (rest := []) (st1 := [.int r19]) C h (As := [.int 6]) (o := some (.int r19)) (τ := σ20) (c_X6_count (l := l) ka1 (res := (r19, σ20)) qr19) ka1 (by decide) (ci := 6) rfl (cwV 1 hts (bz_gV wd_16_2 wd_16_3 wd_16_4 wd_1_2 wd_16_5) rfl rfl rfl (by decide +kernel) ⟨Nat.le_of_ble_eq_true rfl, Nat.le_of_ble_eq_true rfl⟩) rfl hl.1 rfl (by decide) hcf dL_law_68 rfl (fun H locs h => ?_)
              refine lv_sipush (v := 500) hx hb dL_law_71 (by decide) ?_
              refine lv_icmp_ne (tgt := 87) hx hb dL_law_74 (by decide) (fun c21 => ?_) (fun c21 => ?_)
              · have hF := it_f hF c21
                refine lv_iconst (v := 0) hx hb dL_law_87 (by decide) ?_
                exact bz_law1 C hA h hcf hlocks hr hF h1 dL_law_88
              · have hF := it_t hF c21
                refine lv_aload_n hx hb dL_law_77 rfl (lv_at hl 0 rfl) ?_
                refine lv_iconst (v := 0) hx hb dL_law_78 (by decide) ?_
                obtain ⟨r22, σ23, qr22, hF⟩ := bd_u hF
                refine bz_callV (rest := []) (st1 := [.int r22]) C h (As := [.int 0]) (o := some (.int r22)) (τ := σ23) (c_X6_pass (l := l) ka1 (res := (r22, σ23)) qr22) ka1 (by decide) (ci := 6) rfl (cwV 1 hts (bz_gV wd_17_15 wd_17_16 wd_17_17 wd_1_2 wd_17_18) rfl rfl rfl (by decide +kernel) ⟨Nat.le_of_ble_eq_true rfl, Nat.le_of_ble_eq_true rfl⟩) rfl hl.1 rfl (by decide) hcf dL_law_79 rfl (fun H locs h => ?_)
                refine lv_bipush (v := (-2)) hx hb dL_law_82 (by decide) ?_
                refine lv_icmp_eq (tgt := 89) hx hb dL_law_84 (by decide) (fun c24 => ?_) (fun c24 => ?_)
                · have hF := it_t hF c24
                  refine lv_iconst (v := 0) hx hb dL_law_89 (by decide) ?_
                  refine lv_istore_n (lv' := [(2, .int 0), (1, .ref a1), (0, .ref b)]) hx hb dL_law_90 rfl hl (by decide) rfl (fun ls hl => ?_)
                  refine L_L_law_L91 C hlocks hr hA hUp hK hX hbl hbA hL ka1 _ cells slots ⟨by omega, by omega⟩ _ _ H locs ls _ h1 hF h (lv_sub hl [2, 1, 0] rfl) ?_
                  intro cells slots hcf σ137 H locs ls res h1 hF h hl
                  refine lv_iconst (v := 1) hx hb dL_law_514 (by decide) ?_
                  exact bz_law1 C hA h hcf hlocks hr hF h1 dL_law_515
                · have hF := it_f hF c24
                  refine lv_iconst (v := 0) hx hb dL_law_87 (by decide) ?_
                  exact bz_law1 C hA h hcf hlocks hr hF h1 dL_law_88
