/-! reading a text: the parts of an item, on both sides -/
section TXT
variable {σ τ : bz_W} {X V M W l p e : Nat}
theorem t_end (hX : σ.2 X 0 = V) (hXl : σ.1 X 1 = nI l) (hXp : σ.1 X 2 = nI p) (hM : τ.2 M 7 = W) (hMl : τ.1 M 6 = nI l) (hMp : τ.1 M 8 = nI p) (hl : l ≤ 80) (hp : p ≤ l) (hc : ∀ j, j < l → σ.1 V j = τ.1 W j) : ∃ e, p ≤ e ∧ e ≤ l ∧ f_X5_partEnd σ X = some (nI e, σ) ∧ f_X7_end τ M = some (nI e, τ) := by
  have key : ∀ fuel j, p ≤ j → j ≤ l → l - j < fuel → ∃ e, p ≤ e ∧ e ≤ l ∧ f_X5_partEnd_L5 X (fun (σ10 : bz_W) => some ((σ10.1 X 1), σ10)) fuel (nI j) σ = some (nI e, σ) ∧ f_X7_end_L5 M (fun (x10 : Int32) (σ11 : bz_W) => some (x10, σ11)) fuel (nI j) τ = some (nI e, τ) := by
    intro fuel
    induction fuel with
    | zero => intro j h1 h2 h3; omega
    | succ f ih =>
      intro j h1 h2 h3
      rw [f_X5_partEnd_L5, f_X7_end_L5, hXl, hMl]
      by_cases ej : j = l
      · subst ej
        rw [if_pos (nI_le (Nat.le_refl _) (by omega)), if_pos (nI_le (Nat.le_refl _) (by omega))]
        exact ⟨j, h1, h2, rfl, rfl⟩
      · have hj : j < l := by omega
        have hge : ¬ nI l ≤ nI j := nI_ge hj (by omega)
        rw [if_neg hge, if_neg hge, in_nI (by omega) (by omega), ck_n, ck_n, nI_clamp (by omega), hX, hM, hc j hj, ck_n, ck_n]
        by_cases c1 : τ.1 W j = 32
        · rw [if_pos c1, if_pos c1]
          exact ⟨j, h1, h2, rfl, rfl⟩
        · rw [if_neg c1, if_neg c1]
          by_cases c2 : τ.1 W j = 59
          · rw [if_pos c2, if_pos c2]
            exact ⟨j, h1, h2, rfl, rfl⟩
          · rw [if_neg c2, if_neg c2, lt_n, lt_n, nI_1]
            exact ih (j + 1) (by omega) (by omega) (by omega)
  unfold f_X5_partEnd f_X7_end
  rw [lt_n, lt_n, hXp, hMp]
  exact key 1100 p (Nat.le_refl _) hp (by omega)
theorem t_time (hX : σ.2 X 0 = V) (hXp : σ.1 X 2 = nI p) (hM : τ.2 M 7 = W) (hMp : τ.1 M 8 = nI p) (hl : l ≤ 80) (he1 : p ≤ e) (he2 : e ≤ l) (hc : ∀ j, j < l → σ.1 V j = τ.1 W j) (he : f_X5_partEnd σ X = some (nI e, σ)) {last : Nat} (hL : σ.1 X 3 = nI last) (hlast : last ≤ 9999) : (f_X5_readTime σ X = some (0, σ) ∧ f_X7_timeAt τ M (nI e) (nI last) = some (-4, τ)) ∨ ∃ t, last ≤ t ∧ t ≤ 9999 ∧ p < e ∧ f_X5_readTime σ X = some (1, bz_wi (bz_wi σ X 3 (nI t)) X 2 (nI e)) ∧ f_X7_timeAt τ M (nI e) (nI last) = some (nI t, τ) := by
  have key : ∀ (kc km : Int32 → bz_W → Option (Int32 × bz_W)) fuel j w, p ≤ j → j ≤ e → e - j < fuel → e - p ≤ 4 → w + 1 ≤ 10 ^ (j - p) → (f_X5_readTime_L50 X (nI e) kc fuel (nI w) (nI j) σ = some (0, σ) ∧ f_X7_timeAt_L47 M (nI e) (nI last) km fuel (nI w) (nI j) τ = some (-4, τ)) ∨ ∃ t, t ≤ 9999 ∧ f_X5_readTime_L50 X (nI e) kc fuel (nI w) (nI j) σ = kc (nI t) σ ∧ f_X7_timeAt_L47 M (nI e) (nI last) km fuel (nI w) (nI j) τ = km (nI t) τ := by
    intro kc km fuel
    induction fuel with
    | zero => intro j w h1 h2 h3; omega
    | succ f ih =>
      intro j w h1 h2 h3 h4 h5
      have h10 : 10 ^ (j - p) ≤ 10 ^ 4 := Nat.pow_le_pow_right (by omega) (by omega)
      rw [f_X5_readTime_L50, f_X7_timeAt_L47]
      by_cases ej : j = e
      · subst ej
        rw [if_pos (nI_le (Nat.le_refl _) (by omega)), if_pos (nI_le (Nat.le_refl _) (by omega))]
        exact Or.inr ⟨w, by omega, rfl, rfl⟩
      · have hge : ¬ nI e ≤ nI j := nI_ge (by omega) (by omega)
        rw [if_neg hge, if_neg hge, in_nI (by omega) (by omega), ck_n, ck_n, nI_clamp (by omega), hX, hM, hc j (by omega)]
        rcases io_cases (τ.1 W j) 48 57 with ⟨c1, c2, c3, c4⟩ | ⟨c1, c2⟩
        · obtain ⟨d, d1, d2, d3⟩ := rng 48 57 rfl rfl (by omega) (by omega) c3 c4
          rw [c1, c2, bd_n, bd_n, if_pos rfl, if_neg (by decide), ck_n, ck_n, hX, hM, hc j (by omega), d3, lt_n, lt_n, lt_n, lt_n, nI_1]
          have e1 : nI w * 10 + (nI d - 48) = nI (w * 10 + (d - 48)) := by
            rw [show (10 : Int32) = nI 10 from rfl, show (48 : Int32) = nI 48 from rfl, pk_mul, pk_sub2 d1, nI_add]
          have e2 : (10 : Int32) * nI w + nI d - 48 = nI (w * 10 + (d - 48)) := by
            rw [show (10 : Int32) = nI 10 from rfl, show (48 : Int32) = nI 48 from rfl, pk_mul, nI_add, pk_sub2 (by omega)]
            congr 1
            omega
          rw [e1, e2]
          have hpw : 10 ^ (j + 1 - p) = 10 ^ (j - p) * 10 := by rw [show j + 1 - p = (j - p) + 1 by omega, Nat.pow_succ]
          exact ih (j + 1) _ (by omega) (by omega) (by omega) h4 (by omega)
        · rw [c1, c2, bd_n, bd_n, if_neg (by decide), if_pos rfl]
          exact Or.inl ⟨rfl, rfl⟩
  unfold f_X5_readTime f_X7_timeAt
  rw [he, bd_n, hXp, hMp, lt_n, lt_n, pk_sub2 he1]
  rcases io_cases (nI (e - p)) 1 4 with ⟨c1, c2, c3, c4⟩ | ⟨c1, c2⟩
  · obtain ⟨n, n1, n2, n3⟩ := rng 1 4 rfl rfl (by omega) (by omega) c3 c4
    have en : e - p = n := (nI_eq (by omega) (by omega)).mp n3
    have core : ∀ (oc om : Option (Int32 × bz_W)), oc = (f_X5_readTime_L50 X (nI e) (fun (x20 : Int32) (σ21 : bz_W) => if (σ21.1 X 3) ≤ x20 then lt_ (bz_wi σ21 X 3 x20) fun σ23 => lt_ (bz_wi σ23 X 2 (nI e)) fun σ24 => some (1, σ24) else some (0, σ21)) 1100 0 (nI p) σ) → om = (f_X7_timeAt_L47 M (nI e) (nI last) (fun (x18 : Int32) (σ19 : bz_W) => if (nI last) ≤ x18 then some (x18, σ19) else some ((-4), σ19)) 1100 0 (nI p) τ) → (oc = some (0, σ) ∧ om = some (-4, τ)) ∨ ∃ t, last ≤ t ∧ t ≤ 9999 ∧ p < e ∧ oc = some (1, bz_wi (bz_wi σ X 3 (nI t)) X 2 (nI e)) ∧ om = some (nI t, τ) := by
      intro oc om h1 h2
      have hk := key (fun (x20 : Int32) (σ21 : bz_W) => if (σ21.1 X 3) ≤ x20 then lt_ (bz_wi σ21 X 3 x20) fun σ23 => lt_ (bz_wi σ23 X 2 (nI e)) fun σ24 => some (1, σ24) else some (0, σ21)) (fun (x18 : Int32) (σ19 : bz_W) => if (nI last) ≤ x18 then some (x18, σ19) else some ((-4), σ19)) 1100 p 0 (Nat.le_refl _) he1 (by omega) (by omega) (by simp)
      rw [nI_0] at hk
      rw [h1, h2]
      rcases hk with ⟨k1, k2⟩ | ⟨t, k0, k1, k2⟩
      · exact Or.inl ⟨k1, k2⟩
      · rw [k1, k2, hL]
        by_cases ht : last ≤ t
        · rw [if_pos (nI_le ht (by omega)), if_pos (nI_le ht (by omega)), lt_n, lt_n]
          exact Or.inr ⟨t, ht, k0, by omega, rfl, rfl⟩
        · rw [if_neg (nI_ge (by omega) (by omega)), if_neg (nI_ge (by omega) (by omega))]
          exact Or.inl ⟨rfl, rfl⟩
    rw [c1, c2, bd_n, bd_n, if_pos rfl, if_neg (by decide), lt_n, lt_n]
    by_cases h1 : e - p ≤ 1
    · have hle : nI (e - p) ≤ (1 : Int32) := nI_le (b := 1) h1 (by omega)
      rw [if_pos hle, if_pos hle]
      dsimp only
      rw [lt_n, lt_n, hXp, hMp]
      exact core _ _ rfl rfl
    · have hle : ¬ nI (e - p) ≤ (1 : Int32) := nI_ge (a := 1) (by omega) (by omega)
      rw [if_neg hle, if_neg hle, hXp, hMp, in_nI (by omega) (by omega), ck_n, ck_n, nI_clamp (by omega), hX, hM, hc p (by omega)]
      by_cases h0 : τ.1 W p = 48
      · rw [if_pos h0, if_pos h0]
        exact Or.inl ⟨rfl, rfl⟩
      · rw [if_neg h0, if_neg h0]
        dsimp only
        rw [lt_n, lt_n, hXp, hMp]
        exact core _ _ rfl rfl
  · rw [c1, c2, bd_n, bd_n, if_neg (by decide), if_pos rfl]
    exact Or.inl ⟨rfl, rfl⟩
theorem t_blank (hX : σ.2 X 0 = V) (hXl : σ.1 X 1 = nI l) (hXp : σ.1 X 2 = nI p) (hM : τ.2 M 7 = W) (hMl : τ.1 M 6 = nI l) (hMp : τ.1 M 8 = nI p) (hl : l ≤ 80) (hp : p ≤ l) (hc : ∀ j, j < l → σ.1 V j = τ.1 W j) : (f_X5_readBlank σ X = some (0, σ) ∧ f_X7_takesBlank τ M = some (0, τ)) ∨ (p < l ∧ f_X5_readBlank σ X = some (1, bz_wi σ X 2 (nI (p + 1))) ∧ f_X7_takesBlank τ M = some (1, bz_wi τ M 8 (nI (p + 1)))) := by
  unfold f_X5_readBlank f_X7_takesBlank
  rw [hXl, hMl, hXp, hMp]
  by_cases h : p = l
  · subst h
    rw [if_pos (nI_le (Nat.le_refl _) (by omega)), if_pos (nI_le (Nat.le_refl _) (by omega))]
    exact Or.inl ⟨rfl, rfl⟩
  · rw [if_neg (nI_ge (by omega) (by omega)), if_neg (nI_ge (by omega) (by omega)), in_nI (by omega) (by omega), ck_n, ck_n, nI_clamp (by omega), hX, hM, hc p (by omega)]
    by_cases h0 : τ.1 W p = 32
    · rw [if_pos h0, if_pos h0, lt_n, lt_n, nI_1]
      exact Or.inr ⟨by omega, rfl, rfl⟩
    · rw [if_neg h0, if_neg h0]
      exact Or.inl ⟨rfl, rfl⟩
theorem t_digit (hX : σ.2 X 0 = V) (hXp : σ.1 X 2 = nI p) (hM : τ.2 M 7 = W) (hMp : τ.1 M 8 = nI p) (hl : l ≤ 80) (he1 : p ≤ e) (he2 : e ≤ l) (hc : ∀ j, j < l → σ.1 V j = τ.1 W j) (he : f_X5_partEnd σ X = some (nI e, σ)) {mx : Nat} (hmx : mx ≤ 7) : (f_X5_readDigit σ X (nI (48 + mx)) = some (-4, σ) ∧ f_X7_digitAt τ M (nI e) (nI mx) = some (-4, τ)) ∨ ∃ d, d ≤ mx ∧ e = p + 1 ∧ f_X5_readDigit σ X (nI (48 + mx)) = some (nI d, bz_wi σ X 2 (nI e)) ∧ f_X7_digitAt τ M (nI e) (nI mx) = some (nI d, τ) := by
  unfold f_X5_readDigit f_X7_digitAt
  have e48 : (48 : Int32) + nI mx = nI (48 + mx) := nI_add 48 mx
  rw [he, bd_n, hXp, hMp, pk_sub2 he1, e48]
  by_cases h1 : e - p = 1
  · have hp80 : p < 80 := by omega
    rw [h1, if_pos (show nI 1 = (1 : Int32) from rfl), if_pos (show nI 1 = (1 : Int32) from rfl), in_nI hp80 (by omega), ck_n, ck_n, nI_clamp (by omega), hX, hM, hc p (by omega)]
    rcases io_cases (τ.1 W p) 48 (nI (48 + mx)) with ⟨c1, c2, c3, c4⟩ | ⟨c1, c2⟩
    · obtain ⟨d, d1, d2, d3⟩ := rng 48 (48 + mx) rfl rfl (by omega) (by omega) c3 c4
      rw [c1, c2, bd_n, bd_n, if_pos rfl, if_neg (by decide)]
      rw [hXp, in_nI hp80 (by omega), ck_n, nI_clamp (by omega), hX, hc p (by omega), hMp, in_nI hp80 (by omega), ck_n, nI_clamp (by omega), hM, d3, lt_n, lt_n, show (48 : Int32) = nI 48 from rfl, pk_sub2 d1]
      exact Or.inr ⟨d - 48, by omega, by omega, rfl, rfl⟩
    · rw [c1, c2, bd_n, bd_n, if_neg (by decide), if_pos rfl]
      exact Or.inl ⟨rfl, rfl⟩
  · have hne : ¬ nI (e - p) = (1 : Int32) := fun q => h1 ((nI_eq (b := 1) (by omega) (by omega)).mp q)
    rw [if_neg hne, if_neg hne]
    exact Or.inl ⟨rfl, rfl⟩
end TXT
