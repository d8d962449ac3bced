/-! readTimetable -/
theorem Rel.text {z C T : Nat} {σ τ σ' τ' : bz_W} (h : Rel z C T σ τ) (hF : FE (z + 165) (z + 167) σ σ') (hM : FX (z + 173) (z + 178) τ τ') : Rel z C T σ' τ' := by
  obtain ⟨hs, n, h1, h2, h3, h4, h5, h6, ⟨k1, k2, k3, k4⟩, h7, ⟨l, l1, l2, l3, l4⟩⟩ := h
  obtain ⟨f1, f2, f3⟩ := hF
  obtain ⟨m1, m2, m3⟩ := hM
  have hb := h1.1
  have fr : ∀ x, x < z + 165 → σ'.1 x = σ.1 x := fun x hx => f2 x (by omega) (by omega)
  refine ⟨hs, n, h1, by rw [f1]; exact h2, by rw [m1]; exact h3, ?_, ⟨h5.1.keep fun x a b => fr x (by omega), h5.2.1.keep fun x a b => fr x (by omega), fun i hi => (h5.2.2 i hi).keep fun x a b => fr x (by omega)⟩, by rw [fr z (by omega), m3 5 (by omega) (by omega)]; exact h6, ⟨k1, by rw [fr _ (by omega)]; exact k2, by rw [m3 2 (by omega) (by omega)]; exact k3, fun j hj => ?_⟩, ?_, ⟨l, l1, by rw [f3]; exact l2, by rw [m3 6 (by omega) (by omega)]; exact l3, fun j hj => by rw [f2 _ (by omega) (by omega), m2 _ (by omega) (by omega)]; exact l4 j hj⟩⟩
  · rw [m2 _ (by omega) (by omega)]
    exact h4.keep fun x a b => fr x (by omega)
  · have := hb j (by omega)
    rw [m2 _ (by omega) (by omega)]
    exact (k4 j hj).keep fun x a b => fr x (by omega)
  · unfold Snap at h7 ⊢
    rw [fr z (by omega), m3 4 (by omega) (by omega), m2 (z + 176) (by omega) (by omega)]
    rcases h7 with q | ⟨q1, q2, q3⟩
    · exact Or.inl q
    · exact Or.inr ⟨q1, q2, q3.keep fun x a b => fr x (by omega)⟩
def tabR (r D : Nat → Int32) (n : Nat) : Nat → Int32 := fun y => if 168 ≤ y ∧ y < 168 + n then D (y - 168) + (if (y - 168) % 4 = 0 then r 1 else 0) else r y
theorem tabR_in {r D : Nat → Int32} {n j : Nat} (h : j < n) : tabR r D n (168 + j) = D j + (if j % 4 = 0 then r 1 else 0) := by
  have : 168 ≤ 168 + j ∧ 168 + j < 168 + n := by omega
  simp only [tabR, if_pos this, Nat.add_sub_cancel_left]
theorem tabR_out {r D : Nat → Int32} {n y : Nat} (h : y < 168 ∨ 168 + n ≤ y) : tabR r D n y = r y := by
  have : ¬ (168 ≤ y ∧ y < 168 + n) := by omega
  simp only [tabR, if_neg this]
theorem tabR_s (r D : Nat → Int32) (j : Nat) : upd (tabR r D j) (168 + j) (D j + (if j % 4 = 0 then r 1 else 0)) = tabR r D (j + 1) := by
  funext y
  by_cases hy : y = 168 + j
  · subst hy
    rw [up_s, tabR_in (by omega)]
  · rw [up_o _ _ hy]
    by_cases h : 168 ≤ y ∧ y < 168 + j
    · obtain ⟨i, rfl⟩ : ∃ i, y = 168 + i := ⟨y - 168, by omega⟩
      rw [tabR_in (by omega), tabR_in (by omega)]
    · rw [tabR_out (by omega), tabR_out (by omega)]
theorem m_tabL {τ : bz_W} {M N D n : Nat} {r : Nat → Int32} (hN : τ.2 M 0 = N) (hD : τ.2 M 10 = D) (h9 : τ.1 M 9 = nI n) (hn : n ≤ 10) (hMN : M ≠ N) (hDN : D ≠ N) {k : bz_W → Option (Int32 × bz_W)} : ∀ fuel j, j ≤ 4 * n → 4 * n - j < fuel → f_X7_readTimetable_L85 M k fuel (nI j) (bz_wb τ N (tabR r (τ.1 D) j)) = k (bz_wb τ N (tabR r (τ.1 D) (4 * n))) := by
  intro fuel
  induction fuel with
  | zero => intro j hj h; omega
  | succ f ih =>
    intro j hj h
    have e1 : (4 : Int32) * nI n = nI (4 * n) := pk_mul 4 n
    rw [f_X7_readTimetable_L85, wb_o _ _ hMN, h9, e1]
    by_cases hjn : j = 4 * n
    · subst hjn
      rw [if_pos (nI_le (Nat.le_refl _) (by omega))]
    · have e2 : (168 : Int32) + nI j = nI (168 + j) := nI_add 168 j
      have e3 : nI j - nI j / 4 * 4 = nI (j % 4) := pk_rem (d := 4) (by omega) (by omega) (by omega)
      have hm : j % 4 < 4 := Nat.mod_lt _ (by omega)
      rw [if_neg (nI_ge (by omega) (by omega)), in_nI (by omega) (by omega), ck_n, lt_n, e2, e3, in_nI (by omega) (by omega), wb_2, hN, hD, wb_s, wb_o _ _ hDN, nI_clamp (by omega), nI_clamp (by omega), tabR_out (y := 1) (by omega)]
      have nx := ih (j + 1) (by omega) (by omega)
      rw [← tabR_s] at nx
      by_cases h0 : j % 4 = 0
      · rw [if_pos h0] at nx
        rw [h0, if_pos (show nI 0 = (0 : Int32) from rfl)]
        dsimp only
        rw [ck_n, lt_n, lt_n, wi_wb, nI_1]
        exact nx
      · rw [if_neg h0] at nx
        rw [if_neg (nI_ne0 (by omega) (by omega))]
        dsimp only
        rw [ck_n, lt_n, lt_n, wi_wb, nI_1]
        exact nx
