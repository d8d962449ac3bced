/-! more calls that only read -/
theorem ix_e (m w : Nat) : (216 : Int32) + 3 * nI m + nI w = nI (216 + 3 * m + w) := by
  show nI 216 + nI 3 * nI m + nI w = _
  rw [pk_mul, nI_add, nI_add]
theorem ix_t (m w : Nat) : (168 : Int32) + 4 * nI m + nI w = nI (168 + 4 * m + w) := by
  show nI 168 + nI 4 * nI m + nI w = _
  rw [pk_mul, nI_add, nI_add]
theorem rem10 {n : Nat} (h : n < 2 ^ 31) : nI n - nI n / 10 * 10 = nI (n % 10) := pk_rem (d := 10) h (by omega) (by omega)
theorem xor_nn {x y : Int32} (h : 0 ≤ x) (h2 : 0 ≤ y) : 0 ≤ x ^^^ y := by
  rw [Int32.le_iff_toInt_le] at h h2 ⊢
  have e1 : x.toBitVec.msb = false := by
    rw [BitVec.msb_eq_toInt]
    exact decide_eq_false (Int.not_lt.mpr h)
  have e2 : y.toBitVec.msb = false := by
    rw [BitVec.msb_eq_toInt]
    exact decide_eq_false (Int.not_lt.mpr h2)
  have e3 : (x ^^^ y).toBitVec.msb = false := by
    rw [Int32.toBitVec_xor, BitVec.msb_xor, e1, e2]
    rfl
  rw [BitVec.msb_eq_toInt] at e3
  exact Int.not_lt.mp (of_decide_eq_false e3)
theorem rmod10 {n : Nat} (h : n < 2 ^ 31) : fm_ (nI n) 10 = nI (n % 10) := by
  unfold fm_
  rw [rem10 h, if_pos (xor_nn (Int32.not_lt.mp (nI_pos h)) (by decide))]
theorem cred_eq (c : Int32) : (if 0 < c then c else 0) = (if 0 ≤ c then c else 0) := by
  by_cases h : 0 < c
  · rw [if_pos h, if_pos (Int32.le_of_lt h)]
  · rw [if_neg h]
    by_cases h2 : 0 ≤ c
    · rw [if_pos h2]
      exact Int32.le_antisymm h2 (Int32.not_lt.mp h)
    · rw [if_neg h2]
theorem sm_motor {z k : Nat} {σ τ : bz_W} (h : bz_Rel z k σ τ) (hk : k < 512) (x1 x2 : Int32) : ∃ v σ1 τ1, f_X6_motor σ z x1 x2 = some (v, σ1) ∧ f_X7_motor τ (z + 173) x1 x2 = some (v, τ1) ∧ bz_Rel z (k + 1) σ1 τ1 ∧ σ1 = σ := by
  refine sm_read h (g := fun τ => f_X7_motor τ (z + 173) x1 x2) ?_
  obtain ⟨cnt, ck, t, sz, nx, hz, ⟨a0, -⟩, hN, hL, hS, hI, -⟩ := Rel.rd h
  have hc := hI.1
  unfold f_X6_motor f_X7_motor
  rw [a0]
  rcases pk_ix x1 (n := cnt) (by omega) with h1 | h1 | ⟨i, hi, rfl⟩
  · rw [c_findN hc hS.1.1 (Or.inl h1), m_noN hN hc hS.1.2 (Or.inl h1)]
    exact ⟨_, rfl, rfl⟩
  · rw [c_findN hc hS.1.1 (Or.inr h1), m_noN hN hc hS.1.2 (Or.inr h1)]
    exact ⟨_, rfl, rfl⟩
  · have hi8 : i < 8 := by omega
    have hIM := hI.2.2.2.2.2.2.1 i hi
    have hR := hS.2.2.2.2.2.1 i hi
    rw [c_findY hL hc hS.1.1 hi, m_noY hN hc hS.1.2 hi, bd_s, bd_s, if_neg (q_ne z i), if_pos rfl]
    have cd := c_draw hR hIM
    have cc := c_credit hR
    obtain ⟨q2, q3, q4, q5, q7, q8, q9, q10, q11, q12, q14, q13, hk7, q6⟩ := hR
    simp only [cd, cc, ← q2, ← q3, ← q4, ← q5, ← q7, ← q8, ← q9, ← q10, ← q11, ← q12, ← q13, m_of5 hN hi8, bd_s, lt_d, a0, hS.2.1.1, cred_eq]
    by_cases e : x2 = 0
    · subst e
      simp [m_of0 hN hi8, bd_s]
    rw [if_neg e, if_neg e]
    clear e
    by_cases e : x2 = 1
    · subst e
      simp [m_of1 hN hi8, bd_s]
    rw [if_neg e, if_neg e]
    clear e
    by_cases e : x2 = 2
    · subst e
      simp [m_of2 hN hi8, bd_s]
    rw [if_neg e, if_neg e]
    clear e
    by_cases e : x2 = 3
    · subst e
      simp [m_of3 hN hi8, bd_s]
    rw [if_neg e, if_neg e]
    clear e
    by_cases e : x2 = 4
    · subst e
      simp [m_of4 hN hi8, bd_s]
    rw [if_neg e, if_neg e]
    clear e
    by_cases e : x2 = 5
    · subst e
      simp [m_of5 hN hi8, bd_s]
    rw [if_neg e, if_neg e]
    clear e
    by_cases e : x2 = 6
    · subst e
      simp [m_of6 hN hi8, bd_s]
    rw [if_neg e, if_neg e]
    clear e
    by_cases e : x2 = 7
    · subst e
      simp [m_of7 hN hi8, bd_s]
    rw [if_neg e, if_neg e]
    clear e
    by_cases e : x2 = 8
    · subst e
      simp only [m_of8 hN hi8, bd_s, if_true]
      by_cases h5 : τ.1 (z + 174) (8 + 20 * i + 5) = 2
      · rw [if_pos h5, if_pos h5]; exact ⟨_, rfl, rfl⟩
      · rw [if_neg h5, if_neg h5]; exact ⟨_, rfl, rfl⟩
    rw [if_neg e, if_neg e]
    clear e
    by_cases e : x2 = 9
    · subst e
      simp only [m_waited hN hi8, bd_s, if_true, hS.2.1.2]
      by_cases h5 : τ.1 (z + 174) (8 + 20 * i + 5) = 1
      · rw [if_pos h5, if_pos h5]; exact ⟨_, rfl, rfl⟩
      · rw [if_neg h5, if_neg h5]; exact ⟨_, rfl, rfl⟩
    rw [if_neg e, if_neg e]
    clear e
    by_cases e : x2 = 10
    · subst e
      simp only [m_draws hN hi8 hIM.ramp0, bd_s, if_true]
      exact ⟨_, rfl, rfl⟩
    rw [if_neg e, if_neg e]
    clear e
    by_cases e : x2 = 11
    · subst e
      simp only [m_of11 hN hi8, bd_s, if_true]
      by_cases h5 : τ.1 (z + 174) (8 + 20 * i + 5) = 4
      · rw [if_pos h5, if_pos h5]; exact ⟨_, rfl, rfl⟩
      · rw [if_neg h5, if_neg h5]; exact ⟨_, rfl, rfl⟩
    rw [if_neg e, if_neg e]
    clear e
    by_cases e : x2 = 12
    · subst e
      simp only [m_credit hN hi8, bd_s, if_true]
      by_cases h5 : 0 ≤ credR (τ.1 (z + 174)) i
      · rw [if_pos h5, if_pos h5]; exact ⟨_, rfl, rfl⟩
      · rw [if_neg h5, if_neg h5]; exact ⟨_, rfl, rfl⟩
    rw [if_neg e, if_neg e]
    exact ⟨_, rfl, rfl⟩
theorem sm_event {z k : Nat} {σ τ : bz_W} (h : bz_Rel z k σ τ) (hk : k < 512) (x1 x2 : Int32) : ∃ v σ1 τ1, f_X6_event σ z x1 x2 = some (v, σ1) ∧ f_X7_event τ (z + 173) x1 x2 = some (v, τ1) ∧ bz_Rel z (k + 1) σ1 τ1 ∧ σ1 = σ := by
  refine sm_read h (g := fun τ => f_X7_event τ (z + 173) x1 x2) ?_
  obtain ⟨cnt, ck, t, sz, nx, hz, ⟨a0, -⟩, hN, hL, hS, hI, -⟩ := Rel.rd h
  have ht := hI.2.2.1
  unfold f_X6_event f_X7_event
  by_cases h0 : x1 < 0
  · rw [if_pos h0, if_pos h0]
    exact ⟨_, rfl, rfl⟩
  rw [if_neg h0, if_neg h0]
  rcases io_cases x2 0 2 with ⟨c1, c2, c3, c4⟩ | ⟨c1, c2⟩
  · rw [c1, c2, bd_s, bd_s, if_pos rfl, if_neg (by decide), a0, hL.2.2.1]
    unfold f_X0_tell
    rw [if_neg h0, hS.2.2.2.1.1]
    obtain ⟨n, hn, rfl⟩ := nI_of h0
    simp only [wb_2, hN, wb_s, hS.2.2.2.1.2]
    by_cases h10 : 10 ≤ n
    · have e2 : ¬ nI n < (if (10 : Int32) < nI t then 10 else nI t) := by
        by_cases h3 : 10 < t
        · rw [if_pos (show (10 : Int32) < nI t from nI_lt (a := 10) h3 (by omega))]
          exact nI_nlt (b := 10) h10 hn
        · rw [if_neg (show ¬ (10 : Int32) < nI t from nI_nlt (a := 10) (by omega) (by omega))]
          exact nI_nlt (by omega) hn
      rw [if_neg e2, if_pos (show (10 : Int32) ≤ nI n from nI_le (a := 10) h10 hn)]
      exact ⟨_, rfl, rfl⟩
    · rw [if_neg (show ¬ (10 : Int32) ≤ nI n from nI_ge (b := 10) (by omega) (by omega))]
      by_cases hlt : n < t
      · have e2 : nI n < (if (10 : Int32) < nI t then 10 else nI t) := by
          by_cases h3 : 10 < t
          · rw [if_pos (show (10 : Int32) < nI t from nI_lt (a := 10) h3 (by omega))]
            exact nI_lt (b := 10) (by omega) (by omega)
          · rw [if_neg (show ¬ (10 : Int32) < nI t from nI_nlt (a := 10) (by omega) (by omega))]
            exact nI_lt (by omega) (by omega)
        obtain ⟨w, -, hw, rfl⟩ := rng 0 2 rfl rfl (by omega) (by omega) c3 c4
        rw [if_pos e2, if_pos (nI_lt hlt (by omega)), lt_d, show (1 : Int32) = nI 1 from rfl, pk_sub2 (by omega), pk_sub2 (by omega), rmod10 (by omega), rem10 (by omega), ix_e]
        have hm : (t - 1 - n) % 10 < 10 := Nat.mod_lt _ (by omega)
        obtain ⟨m, em⟩ : ∃ m, m = (t - 1 - n) % 10 := ⟨_, rfl⟩
        rw [← em] at hm ⊢
        simp only [in_nI hm (show m < 2 ^ 31 by omega), in_nI (show 216 + 3 * m + w < 246 by omega) (show 216 + 3 * m + w < 2 ^ 31 by omega), ck_t, nI_clamp (show m < 2 ^ 31 by omega), nI_clamp (show 216 + 3 * m + w < 2 ^ 31 by omega), hL.2.2.2.2.2.1, hL.2.2.2.2.2.2.1, hL.2.2.2.2.2.2.2]
        obtain ⟨v0, v1, v2⟩ := hS.2.2.2.2.2.2.2 m hm
        rw [← v0, ← v1, ← v2]
        rcases (show w = 0 ∨ w = 1 ∨ w = 2 by omega) with rfl | rfl | rfl
        · exact ⟨_, rfl, rfl⟩
        · exact ⟨_, rfl, rfl⟩
        · exact ⟨_, rfl, rfl⟩
      · have e2 : ¬ nI n < (if (10 : Int32) < nI t then 10 else nI t) := by
          by_cases h3 : 10 < t
          · omega
          · rw [if_neg (show ¬ (10 : Int32) < nI t from nI_nlt (a := 10) (by omega) (by omega))]
            exact nI_nlt (by omega) hn
        rw [if_neg e2, if_neg (nI_nlt (by omega) hn)]
        exact ⟨_, rfl, rfl⟩
  · rw [c1, c2]
    exact ⟨_, rfl, rfl⟩
theorem sm_count {z k : Nat} {σ τ : bz_W} (h : bz_Rel z k σ τ) (hk : k < 512) (x1 : Int32) : ∃ v σ1 τ1, f_X6_count σ z x1 = some (v, σ1) ∧ f_X7_count τ (z + 173) x1 = some (v, τ1) ∧ bz_Rel z (k + 1) σ1 τ1 ∧ σ1 = σ := by
  refine sm_read h (g := fun τ => f_X7_count τ (z + 173) x1) ?_
  obtain ⟨cnt, ck, t, sz, nx, hz, ⟨a0, a1, -, a4, -⟩, hN, hL, hS, hI, hr⟩ := Rel.rd h
  obtain ⟨hs, n, -, -, -, -, -, -, ⟨-, n1, n2, -⟩, -, ⟨l, -, l1, l2, -⟩⟩ := h
  have cm := c_mode hL hS hI
  have mm := m_mode (τ := τ) hN hS.1.2 hI.1
  have hn1 : z + 173 ≠ z + 174 := by omega
  unfold f_X6_count f_X7_count
  simp only [lt_d, a0, a1, a4, wb_2, hN, wb_s, wb_o _ _ hn1, cm, mm, bd_s, n1, n2, l1, l2, hr, hS.1.1, hS.1.2, hS.2.1.1, hS.2.1.2]
  by_cases e : x1 = 0
  · subst e
    rw [if_pos rfl, if_pos rfl]; exact ⟨_, rfl, rfl⟩
  rw [if_neg e, if_neg e]
  clear e
  by_cases e : x1 = 1
  · subst e
    rw [if_pos rfl, if_pos rfl]; exact ⟨_, rfl, rfl⟩
  rw [if_neg e, if_neg e]
  clear e
  by_cases e : x1 = 2
  · subst e
    rw [if_pos rfl, if_pos rfl]; exact ⟨_, rfl, rfl⟩
  rw [if_neg e, if_neg e]
  clear e
  by_cases e : x1 = 3
  · subst e
    rw [if_pos rfl, if_pos rfl]; exact ⟨_, rfl, rfl⟩
  rw [if_neg e, if_neg e]
  clear e
  by_cases e : x1 = 4
  · subst e
    rw [if_pos rfl, if_pos rfl]; exact ⟨_, rfl, rfl⟩
  rw [if_neg e, if_neg e]
  clear e
  by_cases e : x1 = 5
  · subst e
    rw [if_pos rfl, if_pos rfl]; exact ⟨_, rfl, rfl⟩
  rw [if_neg e, if_neg e]
  clear e
  by_cases e : x1 = 6
  · subst e
    rw [if_pos rfl, if_pos rfl, hS.2.2.1.1]; exact ⟨_, rfl, rfl⟩
  rw [if_neg e, if_neg e]
  clear e
  by_cases e : x1 = 7
  · subst e
    rw [if_pos rfl, if_pos rfl, ← hS.2.2.1.2.1]
    rcases hI.2.2.2.2.2.1 with q | q
    · rw [q, if_pos rfl]; exact ⟨_, rfl, rfl⟩
    · rw [q, if_neg (by decide)]; exact ⟨_, rfl, rfl⟩
  rw [if_neg e, if_neg e]
  clear e
  by_cases e : x1 = 8
  · subst e
    rw [if_pos rfl, if_pos rfl]; exact ⟨_, rfl, rfl⟩
  rw [if_neg e, if_neg e]
  clear e
  by_cases e : x1 = 9
  · subst e
    rw [if_pos rfl, if_pos rfl, hS.2.2.2.2.1.2.2, hL.2.1]
    unfold f_X4_left
    rw [hS.2.2.2.2.1.1, hS.2.2.2.2.1.2.1, pk_sub2 hI.2.2.2.2.1]
    exact ⟨_, rfl, rfl⟩
  rw [if_neg e, if_neg e]
  clear e
  by_cases e : x1 = 10
  · subst e
    rw [if_pos rfl, if_pos rfl, hS.2.2.1.2.2]; exact ⟨_, rfl, rfl⟩
  rw [if_neg e, if_neg e]
  clear e
  by_cases e : x1 = 11
  · subst e
    rw [if_pos rfl, if_pos rfl]
    have e1 := c_sumA hL hS hI (w := 0) (by omega)
    have e2 := m_sumOf (τ := τ) (M := z + 173) (N := z + 174) hN hS.1.2 hI.1 (w := 12) (by omega)
    have e1' : f_X3_sumOfAccount σ (z + 1) 0 = _ := e1
    have e2' : f_X7_sumOf (bz_wb τ (z + 174) (τ.1 (z + 174))) (z + 173) 12 = _ := e2
    rw [e1', e2']
    exact ⟨_, rfl, rfl⟩
  rw [if_neg e, if_neg e]
  clear e
  by_cases e : x1 = 12
  · subst e
    rw [if_pos rfl, if_pos rfl]
    have e1 := c_sumA hL hS hI (w := 1) (by omega)
    have e2 := m_sumOf (τ := τ) (M := z + 173) (N := z + 174) hN hS.1.2 hI.1 (w := 13) (by omega)
    have e1' : f_X3_sumOfAccount σ (z + 1) 1 = _ := e1
    have e2' : f_X7_sumOf (bz_wb τ (z + 174) (τ.1 (z + 174))) (z + 173) 13 = _ := e2
    rw [e1', e2']
    exact ⟨_, rfl, rfl⟩
  rw [if_neg e, if_neg e]
  clear e
  by_cases e : x1 = 13
  · subst e
    rw [if_pos rfl, if_pos rfl]
    have e2 := m_sumOf (τ := τ) (M := z + 173) (N := z + 174) hN hS.1.2 hI.1 (w := 6) (by omega)
    have e2' : f_X7_sumOf (bz_wb τ (z + 174) (τ.1 (z + 174))) (z + 173) 6 = _ := e2
    rw [c_sumH hL hS hI, e2']
    exact ⟨_, rfl, rfl⟩
  rw [if_neg e, if_neg e]
  clear e
  by_cases e : x1 = 14
  · subst e
    rw [if_pos rfl, if_pos rfl, c_sumD hL hS hI, m_allDraw hN hS.1.2 hI.1 hI.2.2.2.2.2.2.1]
    exact ⟨_, rfl, rfl⟩
  rw [if_neg e, if_neg e]
  clear e
  by_cases e : x1 = 15
  · subst e
    rw [if_pos rfl, if_pos rfl, hL.2.2.1, hS.2.2.2.1.1, hS.2.2.2.1.2]; exact ⟨_, rfl, rfl⟩
  rw [if_neg e, if_neg e]
  clear e
  by_cases e : x1 = 16
  · subst e
    rw [if_pos rfl, if_pos rfl]; exact ⟨_, rfl, rfl⟩
  rw [if_neg e, if_neg e]
  clear e
  by_cases e : x1 = 17
  · subst e
    rw [if_pos rfl, if_pos rfl]; exact ⟨_, rfl, rfl⟩
  rw [if_neg e, if_neg e]
  clear e
  exact ⟨_, rfl, rfl⟩
