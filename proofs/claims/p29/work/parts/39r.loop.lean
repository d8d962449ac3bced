/-! reading a text: item after item -/
def ItD (D : Nat → Int32) (j : Nat) : Prop := ∃ w f : Nat, D (4 * j + 1) = nI w ∧ D (4 * j + 2) = nI f ∧ w ≤ 4 ∧ f ≤ 7 ∧ (w = 4 → f ≤ 1) ∧ (if w = 2 then ∃ p : Nat, p ≤ 7 ∧ D (4 * j + 3) = nI p else D (4 * j + 3) = -4)
def ES (E ck n : Nat) (σ : bz_W) (D : Nat → Int32) : Prop := (σ.2 E 0 = E + 1 ∧ σ.2 E 1 = E + 2 ∧ σ.2 E 2 = E + 3 ∧ σ.2 E 3 = E + 4) ∧ σ.1 E 4 = nI n ∧ σ.1 E 5 = 0 ∧ n ≤ 10 ∧ ∀ j, j < n → (σ.1 (E + 1) j = nI ck + D (4 * j) ∧ σ.1 (E + 2) j = D (4 * j + 1) ∧ σ.1 (E + 3) j = D (4 * j + 2) ∧ σ.1 (E + 4) j = D (4 * j + 3)) ∧ ItD D j
theorem c_eadd {σ : bz_W} {E ck n : Nat} {D : Nat → Int32} (h : ES E ck n σ D) (hn : n < 10) {v0 v1 v2 v3 : Int32} (g0 : v0 = nI ck + D (4 * n)) (g1 : v1 = D (4 * n + 1)) (g2 : v2 = D (4 * n + 2)) (g3 : v3 = D (4 * n + 3)) (hi : ItD D n) : ∃ σ', f_X4_add σ E v0 v1 v2 v3 = some (0, σ') ∧ ES E ck (n + 1) σ' D ∧ σ'.2 = σ.2 ∧ ∀ x, (x < E ∨ E + 4 < x) → σ'.1 x = σ.1 x := by
  obtain ⟨⟨r0, r1, r2, r3⟩, s4, s5, -, hj⟩ := h
  unfold f_X4_add
  rw [s4, if_neg (show ¬ (10 : Int32) ≤ nI n from nI_ge (b := 10) hn (by omega)), in_nI hn (by omega), ck_n, lt_n, nI_clamp (by omega)]
  simp only [wi_2, r0, r1, r2, r3]
  rw [wi_o _ _ _ (show E ≠ E + 1 by omega), s4, in_nI hn (by omega), ck_n, lt_n, nI_clamp (by omega)]
  simp only [wi_2, r0, r1, r2, r3]
  rw [wi_o _ _ _ (show E ≠ E + 2 by omega), wi_o _ _ _ (show E ≠ E + 1 by omega), s4, in_nI hn (by omega), ck_n, lt_n, nI_clamp (by omega)]
  simp only [wi_2, r0, r1, r2, r3]
  rw [wi_o _ _ _ (show E ≠ E + 3 by omega), wi_o _ _ _ (show E ≠ E + 2 by omega), wi_o _ _ _ (show E ≠ E + 1 by omega), s4, in_nI hn (by omega), ck_n, lt_n, nI_clamp (by omega)]
  rw [lt_n, wi_o _ _ _ (show E ≠ E + 4 by omega), wi_o _ _ _ (show E ≠ E + 3 by omega), wi_o _ _ _ (show E ≠ E + 2 by omega), wi_o _ _ _ (show E ≠ E + 1 by omega), s4, nI_1]
  refine ⟨_, rfl, ⟨⟨r0, r1, r2, r3⟩, by rw [wi_ss], by rw [wi_so _ _ (by omega), wi_o _ _ _ (by omega), wi_o _ _ _ (by omega), wi_o _ _ _ (by omega), wi_o _ _ _ (by omega)]; exact s5, by omega, fun j hjn => ?_⟩, rfl, fun x hx => by rw [wi_o _ _ _ (by omega), wi_o _ _ _ (by omega), wi_o _ _ _ (by omega), wi_o _ _ _ (by omega), wi_o _ _ _ (by omega)]⟩
  rw [wi_o _ _ _ (show E + 1 ≠ E by omega), wi_o _ _ _ (show E + 1 ≠ E + 4 by omega), wi_o _ _ _ (show E + 1 ≠ E + 3 by omega), wi_o _ _ _ (show E + 1 ≠ E + 2 by omega), wi_s, wi_o _ _ _ (show E + 2 ≠ E by omega), wi_o _ _ _ (show E + 2 ≠ E + 4 by omega), wi_o _ _ _ (show E + 2 ≠ E + 3 by omega), wi_s, wi_o _ _ _ (show E + 2 ≠ E + 1 by omega), wi_o _ _ _ (show E + 3 ≠ E by omega), wi_o _ _ _ (show E + 3 ≠ E + 4 by omega), wi_s, wi_o _ _ _ (show E + 3 ≠ E + 2 by omega), wi_o _ _ _ (show E + 3 ≠ E + 1 by omega), wi_o _ _ _ (show E + 4 ≠ E by omega), wi_s, wi_o _ _ _ (show E + 4 ≠ E + 3 by omega), wi_o _ _ _ (show E + 4 ≠ E + 2 by omega), wi_o _ _ _ (show E + 4 ≠ E + 1 by omega)]
  by_cases e : j = n
  · subst e
    rw [up_s, up_s, up_s, up_s]
    exact ⟨⟨g0, g1, g2, g3⟩, hi⟩
  · rw [up_o _ _ e, up_o _ _ e, up_o _ _ e, up_o _ _ e]
    exact hj j (by omega)
theorem ES.congr {σ : bz_W} {E ck n : Nat} {D D' : Nat → Int32} (h : ES E ck n σ D) (hd : ∀ j, j < 4 * n → D' j = D j) : ES E ck n σ D' := by
  obtain ⟨h1, h2, h3, h4, h5⟩ := h
  refine ⟨h1, h2, h3, h4, fun j hj => ?_⟩
  unfold ItD
  rw [hd _ (by omega), hd _ (by omega), hd _ (by omega), hd _ (by omega)]
  exact h5 j hj
