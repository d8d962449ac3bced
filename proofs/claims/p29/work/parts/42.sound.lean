/-! the queue told in order (lines); all is sound (sound) -/
theorem bit_a : ∀ a, a < 256 → ∀ m, m < 8 → ((((nI a >>> (nI m &&& 31)) &&& 1) = 1) = (a.testBit m = true)) ∧ (nI a ||| ((1 : Int32) <<< (nI m &&& 31))) = nI (a ||| 2 ^ m) ∧ a ||| 2 ^ m < 256 := by
  have h : ∀ a, a < 256 → ∀ m, m < 8 → decide (((nI a >>> (nI m &&& 31)) &&& 1) = 1) = a.testBit m ∧ (nI a ||| ((1 : Int32) <<< (nI m &&& 31))) = nI (a ||| 2 ^ m) ∧ a ||| 2 ^ m < 256 := by decide +kernel
  intro a ha m hm
  obtain ⟨h1, h2, h3⟩ := h a ha m hm
  refine ⟨?_, h2, h3⟩
  rw [← h1]
  exact (decide_eq_true_eq).symm
theorem bit_b : ∀ a, a < 256 → ∀ m, m < 8 → ∀ j, j < 8 → (a ||| 2 ^ m).testBit j = (a.testBit j || m == j) := by decide +kernel
def cntM (r : Nat → Int32) (x : Int32) (n : Nat) : Nat := ((List.range n).filter (fun i => decide (r (8 + 20 * i + 5) = x))).length
theorem cntM_s (r : Nat → Int32) (x : Int32) (n : Nat) : cntM r x (n + 1) = cntM r x n + (if r (8 + 20 * n + 5) = x then 1 else 0) := by
  unfold cntM
  rw [List.range_succ, List.filter_append, List.length_append]
  by_cases h : r (8 + 20 * n + 5) = x
  · simp [h]
  · simp [h]
theorem cntM_le (r : Nat → Int32) (x : Int32) : ∀ n, cntM r x n ≤ n
  | 0 => Nat.le_refl _
  | n + 1 => by
    rw [cntM_s]
    have := cntM_le r x n
    split <;> omega
theorem fsum_cnt (r : Nat → Int32) (x : Int32) : ∀ n, fsum (fun i => if r (8 + 20 * i + 5) = x then 1 else 0) n = nI (cntM r x n)
  | 0 => rfl
  | n + 1 => by
    rw [fsum, fsum_cnt r x n, cntM_s]
    by_cases h : r (8 + 20 * n + 5) = x
    · rw [if_pos h, if_pos h, nI_1]
    · rw [if_neg h, if_neg h, Int32.add_zero, Nat.add_zero]
theorem LineOK.cnt1 {r : Nat → Int32} {n : Nat} {l : List Nat} (h : LineOK r n l) : cntM r 1 n = l.length := by
  rw [h.1.length_eq]
  rfl
theorem fsum_congr {f g : Nat → Int32} : ∀ n, (∀ i, i < n → f i = g i) → fsum f n = fsum g n
  | 0, _ => rfl
  | n + 1, h => by rw [fsum, fsum, fsum_congr n (fun i hi => h i (by omega)), h n (by omega)]
theorem fsum_add {f g : Nat → Int32} : ∀ n, fsum (fun i => f i + g i) n = fsum f n + fsum g n
  | 0 => rfl
  | n + 1 => by
    rw [fsum, fsum, fsum, fsum_add n]
    rw [Int32.add_assoc, Int32.add_assoc, ← Int32.add_assoc (fsum g n), Int32.add_comm (fsum g n) (f n), Int32.add_assoc (f n)]
section LN
variable {z k cnt ck t : Nat} {σ τ : bz_W}
theorem ln_L10 {l : List Nat} (hl : LineOK (τ.1 (z + 174)) cnt l) {K : bz_W → Option (Int32 × bz_W)} : ∀ fuel p a (σ : bz_W), WR z k cnt ck t σ τ → p ≤ l.length → l.length - p < fuel → a < 256 → (∀ m, m < 8 → a.testBit m = true → ∃ i, i < p ∧ l.getD i 0 = m) → ∃ g, f_L_lines_L10 z (nI l.length) K fuel (nI a) (nI p) σ = K (bz_wb σ (z + 172) g) := by
  intro fuel
  induction fuel with
  | zero => intro p a σ h hp hf; omega
  | succ f ih =>
    intro p a σ h hp hf ha hb
    have hc := h.2.2.2.2.2.1
    have hlen := hl.len
    rw [f_L_lines_L10]
    by_cases hpn : p = l.length
    · subst hpn
      rw [if_pos (nI_le (Nat.le_refl _) (by omega))]
      exact ⟨σ.1 (z + 172), by rw [wb_id]⟩
    · have hpl : p < l.length := by omega
      have hm := (hl.mem _).mp (getD_mem hpl)
      obtain ⟨m, em⟩ : ∃ m, m = l.getD p 0 := ⟨_, rfl⟩
      rw [← em] at hm
      obtain ⟨g1, e1⟩ := rd_queue h hl p (by omega) rfl
      have ew : wv l p = nI m := by unfold wv; rw [if_pos hpl, ← em]
      rw [if_neg (nI_ge hpl (by omega)), e1, bd_n, ew, if_neg (nI_pos (by omega))]
      have hnb : ¬ ((nI a >>> (nI m &&& 31)) &&& 1) = 1 := by
        rw [(bit_a a ha m (by omega)).1]
        intro hbit
        obtain ⟨i, hi, ei⟩ := hb m (by omega) hbit
        have hpr := pair_getD l hl.2 i p hi hpl
        rw [ei, ← em] at hpr
        exact ah_irr _ _ (ahB_iff.mp hpr)
      have hwm : τ.1 (z + 174) (8 + 20 * m + 5) = 1 := of_decide_eq_true hm.2
      have h2 := h.wb (n := z + 172) (by omega) g1
      rw [if_neg hnb, rd_motor h2 (x := 5) hm.1 5 (by omega) rfl, bd_n, motV5, if_pos hwm, lt_n, lt_n, (bit_a a ha m (by omega)).2.1]
      -- the one ahead, or itself
      have body : ∀ (b : Nat) (σ1 : bz_W), WR z k cnt ck t σ1 τ → (∃ g, σ1 = bz_wb σ (z + 172) g) → b < cnt → wtB (τ.1 (z + 174)) b = true → (b = m ∨ ah (τ.1 (z + 174)) b m) → ∃ g, (bd_ (f_L_urgency σ1 z (nI b)) fun r15 σ16 => bd_ (f_L_urgency σ16 z (nI m)) fun r17 σ18 => lt_ ((r15 - r17)) fun x19 => bd_ (f_X6_motor σ18 z (nI b) 9) fun r20 σ21 => bd_ (f_X6_motor σ21 z (nI m) 9) fun r22 σ23 => lt_ ((r20 - r22)) fun x24 => if x19 < 0 then some (0, σ23) else lt_ (fun (σ26 : bz_W) => (lt_ (fun (σ28 : bz_W) => (lt_ (nI p + 1) fun x30 => f_L_lines_L10 z (nI l.length) K f (nI (a ||| 2 ^ m)) x30 σ28 : Option (Int32 × bz_W))) fun j29 => if x19 = 0 then if x24 = 0 then if nI b ≤ nI m then j29 σ26 else some (0, σ26) else j29 σ26 else j29 σ26 : Option (Int32 × bz_W))) fun j27 => if x19 = 0 then if x24 < 0 then some (0, σ23) else j27 σ23 else j27 σ23) = K (bz_wb σ (z + 172) g) := by
        intro b σ1 h1 hg hb1 hwb hah
        obtain ⟨g0, eg⟩ := hg
        have hwb1 : τ.1 (z + 174) (8 + 20 * b + 5) = 1 := of_decide_eq_true hwb
        rw [l_urg h1 hb1 hwb1, bd_n, l_urg h1 hm.1 hwm, bd_n, lt_n, rd_motor h1 (x := 9) hb1 9 (by omega) rfl, bd_n, rd_motor h1 (x := 9) hm.1 9 (by omega) rfl, bd_n, lt_n, motV9, motV9, if_pos hwb1, if_pos hwm, lt_n]
        have hR := h.2.2
        have er1 := hR.2.1
        obtain ⟨-, -, -, -, -, -, -, -, -, sb, -, -, -, -, -, -, -, -, -, -, e9, -, -, -, -, -, -, -, -, -, -, b9, -⟩ := hR.2.2.2.2.2.2.2 b hb1
        obtain ⟨-, -, -, -, -, -, -, -, -, sm, -, -, -, -, -, -, -, -, -, -, f9, -, -, -, -, -, -, -, -, -, -, c9, -⟩ := hR.2.2.2.2.2.2.2 m hm.1
        have hck := hR.2.2.2.2.1
        have es1 : sR (τ.1 (z + 174)) b = sb := by unfold sR; rw [e9, vN_nI (by omega)]
        have es2 : sR (τ.1 (z + 174)) m = sm := by unfold sR; rw [f9, vN_nI (by omega)]
        have u1 := uR_lt er1 hck (hR.2.2.2.2.2.2.2 b hb1)
        have u2 := uR_lt er1 hck (hR.2.2.2.2.2.2.2 m hm.1)
        rw [er1, e9, f9, pk_sub2 b9, pk_sub2 c9]
        have fin : ∃ g, f_L_lines_L10 z (nI l.length) K f (nI (a ||| 2 ^ m)) (nI (p + 1)) σ1 = K (bz_wb σ (z + 172) g) := by
          obtain ⟨g, e⟩ := ih (p + 1) (a ||| 2 ^ m) σ1 h1 (by omega) (by omega) (bit_a a ha m (by omega)).2.2 (fun j hj hbit => by
            rw [bit_b a ha m (by omega) j hj] at hbit
            rcases Bool.or_eq_true_iff.mp hbit with h | h
            · obtain ⟨i, hi, ei⟩ := hb j hj h
              exact ⟨i, by omega, ei⟩
            · exact ⟨p, by omega, by rw [← em]; exact eq_of_beq h⟩)
          refine ⟨g, e.trans ?_⟩
          rw [eg, wb_wb]
        have hle : uR (τ.1 (z + 174)) m ≤ uR (τ.1 (z + 174)) b := by
          rcases hah with rfl | hah
          · exact Nat.le_refl _
          · unfold ah at hah; omega
        rw [pk_sub2 hle, if_neg (nI_pos (by omega))]
        dsimp only
        by_cases hue : uR (τ.1 (z + 174)) b = uR (τ.1 (z + 174)) m
        · have hs : sb ≤ sm ∧ (sb = sm → b ≤ m) := by
            rcases hah with rfl | hah
            · have : sb = sm := by rw [← es1, ← es2]
              omega
            · unfold ah at hah
              rw [es1, es2] at hah
              omega
          have e0 : uR (τ.1 (z + 174)) b - uR (τ.1 (z + 174)) m = 0 := by omega
          rw [pk_sub2 (show ck - sm ≤ ck - sb by omega), e0, if_pos (show nI 0 = 0 from rfl), if_neg (nI_pos (by omega)), lt_n, if_pos (show nI 0 = 0 from rfl)]
          dsimp only
          by_cases hss : sb = sm
          · rw [if_pos (show nI (ck - sb - (ck - sm)) = 0 by rw [hss, Nat.sub_self]; rfl), if_pos (nI_le (hs.2 hss) (by omega)), lt_n, nI_1]
            exact fin
          · have hne : ¬ nI (ck - sb - (ck - sm)) = 0 := fun e => by
              have := (nI_eq (b := 0) (by omega) (by omega)).mp e
              omega
            rw [if_neg hne, lt_n, nI_1]
            exact fin
        · have hne : ¬ nI (uR (τ.1 (z + 174)) b - uR (τ.1 (z + 174)) m) = 0 := fun e => by
            have := (nI_eq (b := 0) (by omega) (by omega)).mp e
            omega
          rw [if_neg hne, lt_n, if_neg hne]
          dsimp only
          rw [lt_n, nI_1]
          exact fin
      by_cases hp0 : p = 0
      · subst hp0
        rw [if_pos (show nI 0 ≤ (0 : Int32) from Int32.le_refl _)]
        dsimp only
        exact body m _ h2 ⟨g1, rfl⟩ hm.1 hm.2 (Or.inl rfl)
      · have hpl1 : p - 1 < l.length := by omega
        have hm1 := (hl.mem _).mp (getD_mem hpl1)
        obtain ⟨g2, e2⟩ := rd_queue h2 hl (p - 1) (by omega) rfl
        have ew1 : wv l (p - 1) = nI (l.getD (p - 1) 0) := by unfold wv; rw [if_pos hpl1]
        rw [if_neg (show ¬ nI p ≤ (0 : Int32) from nI_ge (a := 0) (by omega) (by omega)), show (1 : Int32) = nI 1 from rfl, pk_sub2 (show 1 ≤ p by omega), e2, bd_n, ew1]
        dsimp only
        have hpr := pair_getD l hl.2 (p - 1) p (by omega) hpl
        rw [← em] at hpr
        exact body _ _ (h2.wb (n := z + 172) (by omega) g2) ⟨g2, by rw [wb_wb]⟩ hm1.1 hm1.2 (Or.inr (ahB_iff.mp hpr))
theorem l_lines (h : WR z k cnt ck t σ τ) : ∃ g, f_L_lines σ z = some (1, bz_wb σ (z + 172) g) := by
  obtain ⟨l, hl⟩ := h.line
  have hlen := hl.len
  have hc := h.2.2.2.2.2.1
  unfold f_L_lines
  have e0 : cntV (τ.1 (z + 174)) cnt (τ.1 (z + 173) 5) (τ.1 (z + 173) 2) 1 = nI l.length := by
    rw [← hl.cnt1]
    exact fsum_cnt _ _ _
  rw [rd_count h (x := 1) 1 (by omega) rfl, bd_n, e0]
  obtain ⟨g, e⟩ := ln_L10 (k := k) (ck := ck) (t := t) hl (K := fun (σ39 : bz_W) => bd_ (f_X6_queue σ39 z (nI l.length)) fun r40 σ41 => if r40 = (-4) then bd_ (f_X6_queue σ41 z (-1)) fun r43 σ44 => if r43 = (-2) then some (1, σ44) else some (0, σ44) else some (0, σ41)) 1100 0 0 σ h (by omega) (by omega) (by omega) (fun m hm hbit => by rw [Nat.zero_testBit] at hbit; cases hbit)
  obtain ⟨g2, e2⟩ := rd_queue (h.wb (n := z + 172) (by omega) g) hl l.length (by omega) rfl
  refine ⟨g2, e.trans ?_⟩
  have ew : wv l l.length = -4 := by unfold wv; rw [if_neg (Nat.lt_irrefl _)]
  rw [e2, bd_n, ew, if_pos rfl, rd_queueM, bd_n, if_pos rfl, wb_wb]
end LN
