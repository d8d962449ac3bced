/-! the law's loop -/
section LWL
variable {z k e : Nat} {σ τ : bz_W} {L N : Nat} {xs : Nat → Int32} {K : bz_W → Option (Int32 × bz_W)}
set_option maxHeartbeats 2000000 in
theorem lw_step (he : e < 26) (h : WW z k σ τ) (hk : k + 7 < 500) (hK : ∀ σ1 τ1, WW z (k + 6) σ1 τ1 → OK1 (f_L_law_L91 L xs z K N (nI e + 1) σ1)) : OK1 (f_L_law_L91 L xs z K (N + 1) (nI e) σ) := by
  obtain ⟨cnt, ck, t, w, g, b1, b2⟩ := h.full (by omega)
  obtain ⟨-, ⟨n, hn, hn2, -⟩, -⟩ := id h.2
  have hc := g.1.2.2.2.1
  have d1 : decide ((0 : Int32) ≤ 2 * nI e) = true := decide_eq_true (by rw [show (2 : Int32) * nI e = nI (2 * e) from pk_mul 2 e]; exact nI_pos' (by omega))
  have d2 : decide ((0 : Int32) ≤ 2 * nI e + 1) = true := decide_eq_true (by rw [show (2 : Int32) * nI e = nI (2 * e) from pk_mul 2 e, nI_1]; exact nI_pos' (by omega))
  rw [f_L_law_L91, if_neg (show ¬ (26 : Int32) ≤ nI e from nI_ge (b := 26) he (by omega)), d1, ck_n, lt_n, d2, ck_n, lt_n]
  obtain ⟨x27, e27⟩ : ∃ x, x = cellv L xs (2 * nI e) := ⟨_, rfl⟩
  obtain ⟨x29, e29⟩ : ∃ x, x = cellv L xs (2 * nI e + 1) := ⟨_, rfl⟩
  rw [← e27, ← e29, l_low _ (x27 >>> (9 &&& 31)) (n := 13) (y := 13) (by omega) (by omega) rfl, bd_n, rd_count0 w, bd_n, rd_count w (x := 16) 16 (by omega) rfl, bd_n, l_dig w, bd_n, show cntV (τ.1 (z + 174)) cnt (τ.1 (z + 173) 5) (τ.1 (z + 173) 2) 16 = nI n from hn2]
  have hs := lowN_lt (x27 >>> (9 &&& 31)) (n := 13) (by omega)
  obtain ⟨s, es⟩ : ∃ s, s = lowN (x27 >>> (9 &&& 31)) 13 := ⟨_, rfl⟩
  rw [← es] at hs ⊢
  have hT : ∀ σ1 τ1, WW z (k + 5) σ1 τ1 → (s < 10 → OUT z τ τ1) → OK1 (lw_tail L xs z K N (nI e) (nI s) x29 (nI n) (digV (τ.1 (z + 174)) cnt) 1 σ1) := fun σ1 τ1 h1 o1 => lw_tail_go h1 (by omega) g hn hn2 hs o1 hK
  have hA : OK1 (lw_add z x27 x29 (nI cnt) (lw_tail L xs z K N (nI e) (nI s) x29 (nI n) (digV (τ.1 (z + 174)) cnt)) σ) := lw_add_go h (by omega) g x27 fun σ1 τ1 h1 o1 => hT σ1 τ1 (h1.mono (by omega)) fun _ => o1
  obtain ⟨T, eT⟩ : ∃ T, T = lw_tail L xs z K N (nI e) (nI s) x29 (nI n) (digV (τ.1 (z + 174)) cnt) := ⟨_, rfl⟩
  obtain ⟨D, eD⟩ : ∃ D, D = digV (τ.1 (z + 174)) cnt := ⟨_, rfl⟩
  suffices hh : OK1 (if nI cnt = 0 then lw_add z x27 x29 (nI cnt) T σ else if nI s = 0 then lw_add z x27 x29 (nI cnt) T σ else if 4 ≤ nI s then if 10 ≤ nI s then if nI s = 10 then bd_ (f_L_low σ x29 9) fun r123 σ124 => bd_ (f_L_low σ124 (x29 >>> (8 &&& 31)) 9) fun r125 σ126 => bd_ (f_L_parts σ126 z (1 + r123) (1 + r125)) fun r127 σ128 => T r127 σ128 else bd_ (f_L_low σ x29 5) fun r114 σ115 => f_L_law_L363 L xs z (nI e) x29 (nI s) (nI n) D (fun (x121 : Int32) (σ122 : bz_W) => T x121 σ122) 1100 1 r114 σ115 else bd_ (f_L_low σ x27 (nI cnt)) fun r129 σ130 => bd_ (f_L_orders σ130 z (nI s) r129 x29) fun r131 σ132 => T r131 σ132 else bd_ (f_L_low σ x27 (nI cnt)) fun r133 σ134 => bd_ (f_L_sets σ134 z (nI s) r133 x29) fun r135 σ136 => T r135 σ136) by
    subst eT
    subst eD
    exact hh
  rw [← eT] at hT hA
  by_cases c0 : cnt = 0
  · rw [if_pos (show nI cnt = 0 by rw [c0]; rfl)]
    exact hA
  · rw [if_neg (nI_ne0 (by omega) (by omega))]
    by_cases s0 : s = 0
    · rw [if_pos (show nI s = 0 by rw [s0]; rfl)]
      exact hA
    · rw [if_neg (nI_ne0 (by omega) (by omega))]
      have hlc := lowN_lt x27 (n := cnt) (by omega)
      by_cases s4 : 4 ≤ s
      · rw [if_pos (show (4 : Int32) ≤ nI s from nI_le (a := 4) s4 (by omega))]
        by_cases s10 : 10 ≤ s
        · rw [if_pos (show (10 : Int32) ≤ nI s from nI_le (a := 10) s10 (by omega))]
          by_cases e10 : s = 10
          · rw [if_pos (show nI s = 10 by rw [e10]; rfl)]
            have q1 := lowN_lt x29 (n := 9) (by omega)
            have q2 := lowN_lt (x29 >>> (8 &&& 31)) (n := 9) (by omega)
            obtain ⟨σ1, τ1, a1, h1⟩ := l_parts h (by omega) g (a := 1 + lowN x29 9) (b := 1 + lowN (x29 >>> (8 &&& 31)) 9) (by omega) (by omega) (by omega) (by omega)
            rw [l_low _ x29 (n := 9) (y := 9) (by omega) (by omega) rfl, bd_n, l_low _ (x29 >>> (8 &&& 31)) (n := 9) (y := 9) (by omega) (by omega) rfl, bd_n, show (1 : Int32) + nI (lowN x29 9) = nI (1 + lowN x29 9) from nI_add 1 _, show (1 : Int32) + nI (lowN (x29 >>> (8 &&& 31)) 9) = nI (1 + lowN (x29 >>> (8 &&& 31)) 9) from nI_add 1 _, a1, bd_n]
            exact hT σ1 τ1 h1 fun x => absurd x (by omega)
          · rw [if_neg (show ¬ nI s = (10 : Int32) from fun x => e10 ((nI_eq (b := 10) (by omega) (by omega)).mp x))]
            have q1 := lowN_lt x29 (n := 5) (by omega)
            obtain ⟨σ1, τ1, a1, h1⟩ := lw_secs (L := L) (xs := xs) (a2 := nI e) (a4 := x29) (a5 := nI s) (a7 := nI n) (a8 := D) (K := fun (x121 : Int32) (σ122 : bz_W) => T x121 σ122) 1100 (lowN x29 5 + 1) k σ τ (nI (lowN x29 5)) (nI_pred _).symm (by omega) h (by omega)
            rw [l_low _ x29 (n := 5) (y := 5) (by omega) (by omega) rfl, bd_n, a1]
            exact hT σ1 τ1 (h1.mono (by omega)) fun x => absurd x (by omega)
        · rw [if_neg (show ¬ (10 : Int32) ≤ nI s from nI_ge (b := 10) (by omega) (by omega))]
          obtain ⟨σ1, τ1, a1, h1, o1⟩ := l_orders h (by omega) g (by omega) hlc (s := s) (by omega) x29
          rw [l_low _ x27 (n := cnt) (by omega) (by omega) rfl, bd_n, a1, bd_n]
          exact hT σ1 τ1 (h1.mono (by omega)) fun _ => o1
      · rw [if_neg (show ¬ (4 : Int32) ≤ nI s from nI_ge (b := 4) (by omega) (by omega))]
        obtain ⟨σ1, τ1, a1, h1, o1⟩ := l_sets h (by omega) g hlc (s := s) (by omega) x29
        rw [l_low _ x27 (n := cnt) (by omega) (by omega) rfl, bd_n, a1, bd_n]
        exact hT σ1 τ1 (h1.mono (by omega)) fun _ => o1
theorem lw_loop : ∀ fuel e k (σ τ : bz_W), e ≤ 26 → 26 - e < fuel → k ≤ 8 + 6 * e → WW z k σ τ → OK1 (f_L_law_L91 L xs z (fun (σ137 : bz_W) => some (1, σ137)) fuel (nI e) σ) := by
  intro fuel
  induction fuel with
  | zero => intro e k σ τ he hf; omega
  | succ f ih =>
    intro e k σ τ he hf hk h
    by_cases e26 : e = 26
    · subst e26
      rw [f_L_law_L91, if_pos (show (26 : Int32) ≤ nI 26 from nI_le (Nat.le_refl _) (by omega))]
      exact ⟨σ, rfl⟩
    · refine lw_step (by omega) h (by omega) fun σ1 τ1 h1 => ?_
      rw [nI_1]
      exact ih (e + 1) (k + 6) σ1 τ1 (by omega) (by omega) (by omega) h1
end LWL
