/-! the start: what the constructors leave is in relation; the kinds of the references -/
theorem wr_s (σ : bz_W) (a k r : Nat) : (bz_wr σ a k r).2 a k = r := by simp [bz_wr]
theorem wr_so (σ : bz_W) {a k j r : Nat} (h : j ≠ k) : (bz_wr σ a k r).2 a j = σ.2 a j := by simp [bz_wr, h]
theorem wr_o (σ : bz_W) {a b k r : Nat} (h : b ≠ a) : (bz_wr σ a k r).2 b = σ.2 b := by simp [bz_wr, h]
theorem LyS.keep {ρ ρ' : Nat → Nat → Nat} {a : Nat} (h : LyS ρ a) (hx : ∀ x, a ≤ x → x < a + 27 → ρ' x = ρ x) : LyS ρ' a := by
  unfold LyS at h ⊢
  rw [hx a (by omega) (by omega), hx (a + 1) (by omega) (by omega), hx (a + 18) (by omega) (by omega), hx (a + 23) (by omega) (by omega)]
  refine ⟨h.1, h.2.1, h.2.2.1, fun i hi => ?_, h.2.2.2.2⟩
  rw [hx (a + 2 + 2 * i) (by omega) (by omega)]
  exact h.2.2.2.1 i hi
section IN
variable (σ : bz_W) (a : Nat)
theorem ini_Ms_ok : ∀ n, n ≤ 8 → (ini_Ms σ a n).2 a 0 = a + 1 ∧ (∀ i, i < n → (ini_Ms σ a n).2 (a + 1) i = a + 2 + 2 * i ∧ (ini_Ms σ a n).2 (a + 2 + 2 * i) 1 = a + 3 + 2 * i ∧ (ini_Ms σ a n).1 (a + 2 + 2 * i) 0 = nI i) ∧ (∀ b, (b < a ∨ a + 18 ≤ b) → (ini_Ms σ a n).1 b = σ.1 b ∧ (ini_Ms σ a n).2 b = σ.2 b) ∧ (ini_Ms σ a n).1 a = σ.1 a
  | 0, _ => by
    refine ⟨wr_s _ _ _ _, fun i hi => absurd hi (Nat.not_lt_zero _), fun b hb => ⟨rfl, wr_o _ (by omega)⟩, rfl⟩
  | n + 1, h => by
    obtain ⟨h1, h2, h3, h4⟩ := ini_Ms_ok n (by omega)
    unfold ini_Ms ini_M
    refine ⟨?_, fun i hi => ?_, fun b hb => ⟨?_, ?_⟩, ?_⟩
    · rw [wr_o _ (by omega), wr_o _ (by omega)]
      exact h1
    · by_cases e : i = n
      · subst e
        refine ⟨wr_s _ _ _ _, ?_, ?_⟩
        · rw [wr_o _ (by omega), wr_s]
          omega
        · rw [wr_1, wr_1, wi_ss]
      · obtain ⟨q1, q2, q3⟩ := h2 i (by omega)
        refine ⟨?_, ?_, ?_⟩
        · rw [wr_so _ e, wr_o _ (by omega)]
          exact q1
        · rw [wr_o _ (by omega), wr_o _ (by omega)]
          exact q2
        · rw [wr_1, wr_1, wi_o _ _ _ (by omega)]
          exact q3
    · rw [wr_1, wr_1, wi_o _ _ _ (by omega)]
      exact (h3 b hb).1
    · rw [wr_o _ (by omega), wr_o _ (by omega)]
      exact (h3 b hb).2
    · rw [wr_1, wr_1, wi_o _ _ _ (by omega)]
      exact h4
theorem ini_S_ok : LyS (ini_S σ a).2 a ∧ NmS (ini_S σ a) a ∧ (∀ b, (b < a ∨ a + 27 ≤ b) → (ini_S σ a).1 b = σ.1 b ∧ (ini_S σ a).2 b = σ.2 b) ∧ (∀ b, a + 18 ≤ b → (ini_S σ a).1 b = σ.1 b) ∧ (ini_S σ a).1 a = upd (σ.1 a) 5 500 := by
  obtain ⟨h1, h2, h3, h4⟩ := ini_Ms_ok σ a 8 (Nat.le_refl _)
  have i1 : ∀ b, b ≠ a → (ini_S σ a).1 b = (ini_Ms σ a 8).1 b := fun b hb => by
    unfold ini_S
    rw [wi_o _ _ _ hb]
    rfl
  have r1 : ∀ b, b ≠ a → b ≠ a + 18 → b ≠ a + 23 → (ini_S σ a).2 b = (ini_Ms σ a 8).2 b := fun b q1 q2 q3 => by
    unfold ini_S ini_E ini_T
    rw [wi_2, wr_o _ q1, wr_o _ q3, wr_o _ q3, wr_o _ q3, wr_o _ q1, wr_o _ q2, wr_o _ q2, wr_o _ q2, wr_o _ q2]
  refine ⟨⟨?_, ?_, ?_, fun i hi => ?_, ⟨?_, ?_, ?_, ?_⟩, ⟨?_, ?_, ?_⟩⟩, fun i hi => ?_, fun b hb => ⟨?_, ?_⟩, fun b hb => ?_, ?_⟩
  · unfold ini_S ini_E ini_T
    rw [wi_2, wr_so _ (by omega), wr_o _ (by omega), wr_o _ (by omega), wr_o _ (by omega), wr_so _ (by omega), wr_o _ (by omega), wr_o _ (by omega), wr_o _ (by omega), wr_o _ (by omega)]
    exact h1
  · unfold ini_S ini_E ini_T
    rw [wi_2, wr_so _ (by omega), wr_o _ (by omega), wr_o _ (by omega), wr_o _ (by omega), wr_s]
  · unfold ini_S
    rw [wi_2, wr_s]
  · rw [r1 _ (by omega) (by omega) (by omega), r1 _ (by omega) (by omega) (by omega)]
    exact ⟨(h2 i hi).1, (h2 i hi).2.1⟩
  · unfold ini_S ini_E ini_T
    rw [wi_2, wr_o _ (by omega), wr_o _ (by omega), wr_o _ (by omega), wr_o _ (by omega), wr_o _ (by omega), wr_so _ (by omega), wr_so _ (by omega), wr_so _ (by omega), wr_s]
  · unfold ini_S ini_E ini_T
    rw [wi_2, wr_o _ (by omega), wr_o _ (by omega), wr_o _ (by omega), wr_o _ (by omega), wr_o _ (by omega), wr_so _ (by omega), wr_so _ (by omega), wr_s]
  · unfold ini_S ini_E ini_T
    rw [wi_2, wr_o _ (by omega), wr_o _ (by omega), wr_o _ (by omega), wr_o _ (by omega), wr_o _ (by omega), wr_so _ (by omega), wr_s]
  · unfold ini_S ini_E ini_T
    rw [wi_2, wr_o _ (by omega), wr_o _ (by omega), wr_o _ (by omega), wr_o _ (by omega), wr_o _ (by omega), wr_s]
  · unfold ini_S ini_E
    rw [wi_2, wr_o _ (by omega), wr_so _ (by omega), wr_so _ (by omega), wr_s]
  · unfold ini_S ini_E
    rw [wi_2, wr_o _ (by omega), wr_so _ (by omega), wr_s]
  · unfold ini_S ini_E
    rw [wi_2, wr_o _ (by omega), wr_s]
  · rw [i1 _ (by omega)]
    exact (h2 i hi).2.2
  · rw [i1 _ (by omega)]
    exact (h3 b (by omega)).1
  · rw [r1 _ (by omega) (by omega) (by omega)]
    exact (h3 b (by omega)).2
  · rw [i1 _ (by omega)]
    exact (h3 b (by omega)).1
  · unfold ini_S
    rw [wi_s, wr_1]
    unfold ini_E
    rw [wr_1, wr_1, wr_1, wr_1]
    unfold ini_T
    rw [wr_1, wr_1, wr_1, wr_1, h4]
theorem ini_Hs_ok : ∀ n, n ≤ 4 → (ini_Hs σ a n).2 a 0 = a + 1 ∧ (∀ i, i < n → (ini_Hs σ a n).2 (a + 1) i = a + 2 + 27 * i ∧ LyS (ini_Hs σ a n).2 (a + 2 + 27 * i) ∧ NmS (ini_Hs σ a n) (a + 2 + 27 * i)) ∧ (∀ b, (b < a ∨ a + 110 ≤ b) → (ini_Hs σ a n).1 b = σ.1 b ∧ (ini_Hs σ a n).2 b = σ.2 b) ∧ (ini_Hs σ a n).1 a = σ.1 a
  | 0, _ => by
    refine ⟨wr_s _ _ _ _, fun i hi => absurd hi (Nat.not_lt_zero _), fun b hb => ⟨rfl, wr_o _ (by omega)⟩, rfl⟩
  | n + 1, h => by
    obtain ⟨h1, h2, h3, h4⟩ := ini_Hs_ok n (by omega)
    obtain ⟨s1, s2, s3, -, -⟩ := ini_S_ok (ini_Hs σ a n) (a + 2 + 27 * n)
    unfold ini_Hs
    refine ⟨?_, fun i hi => ?_, fun b hb => ⟨?_, ?_⟩, ?_⟩
    · rw [wr_o _ (by omega), (s3 a (by omega)).2]
      exact h1
    · by_cases e : i = n
      · subst e
        exact ⟨wr_s _ _ _ _, s1.keep fun x q1 q2 => wr_o _ (by omega), s2⟩
      · obtain ⟨q1, q2, q3⟩ := h2 i (by omega)
        refine ⟨?_, q2.keep fun x p1 p2 => ?_, q3.keep fun x p1 p2 => ?_⟩
        · rw [wr_so _ e, (s3 _ (by omega)).2]
          exact q1
        · rw [wr_o _ (by omega), (s3 _ (by omega)).2]
        · rw [wr_1, (s3 _ (by omega)).1]
    · rw [wr_1, (s3 _ (by omega)).1]
      exact (h3 b hb).1
    · rw [wr_o _ (by omega), (s3 _ (by omega)).2]
      exact (h3 b hb).2
    · rw [wr_1, (s3 _ (by omega)).1]
      exact h4
end IN
theorem ini_B_ok {z : Nat} (hz : 0 < z) : LyC (ini_B (fun _ _ => 0, fun _ _ => 0) z).2 z (fun i => i) ∧ NmA (ini_B (fun _ _ => 0, fun _ _ => 0) z) z ∧ (ini_B (fun _ _ => 0, fun _ _ => 0) z).1 (z + 1) = upd (fun _ => 0) 5 500 ∧ (∀ b, (b = z ∨ (z + 19 ≤ b ∧ b < z + 29) ∨ z + 165 ≤ b) → (ini_B (fun _ _ => 0, fun _ _ => 0) z).1 b = fun _ => 0) := by
  obtain ⟨s1, es1⟩ : ∃ s, s = ini_S (fun _ _ => 0, fun _ _ => 0) (z + 1) := ⟨_, rfl⟩
  have a := ini_S_ok (fun _ _ => 0, fun _ _ => 0) (z + 1)
  rw [← es1] at a
  obtain ⟨a1, a2, a3, a4, a5⟩ := a
  obtain ⟨s2, es2⟩ : ∃ s, s = bz_wr s1 z 0 (z + 1) := ⟨_, rfl⟩
  obtain ⟨s3, es3⟩ : ∃ s, s = ini_Hs s2 (z + 28) 4 := ⟨_, rfl⟩
  have b := ini_Hs_ok s2 (z + 28) 4 (Nat.le_refl _)
  rw [← es3] at b
  obtain ⟨b1, b2, b3, b4⟩ := b
  obtain ⟨s4, es4⟩ : ∃ s, s = bz_wr s3 z 1 (z + 28) := ⟨_, rfl⟩
  obtain ⟨s5, es5⟩ : ∃ s, s = ini_S s4 (z + 138) := ⟨_, rfl⟩
  have c := ini_S_ok s4 (z + 138)
  rw [← es5] at c
  obtain ⟨c1, c2, c3, c4, c5⟩ := c
  have eB : ini_B (fun _ _ => 0, fun _ _ => 0) z = bz_wr (bz_wr (ini_T (bz_wr (ini_X (bz_wr s5 z 2 (z + 138)) (z + 165)) z 4 (z + 165)) (z + 167)) z 5 (z + 167)) z 6 (z + 172) := by
    rw [es5, es4, es3, es2, es1]
    rfl
  rw [eB]
  unfold ini_X ini_T
  have i5 : ∀ b, (bz_wr (bz_wr (bz_wr (bz_wr (bz_wr (bz_wr (bz_wr (bz_wr (bz_wr s5 z 2 (z + 138)) (z + 165) 0 (z + 165 + 1)) z 4 (z + 165)) (z + 167) 0 (z + 167 + 1)) (z + 167) 1 (z + 167 + 2)) (z + 167) 2 (z + 167 + 3)) (z + 167) 3 (z + 167 + 4)) z 5 (z + 167)) z 6 (z + 172)).1 b = s5.1 b := fun b => rfl
  have r5 : ∀ b, b ≠ z → b ≠ z + 165 → b ≠ z + 167 → (bz_wr (bz_wr (bz_wr (bz_wr (bz_wr (bz_wr (bz_wr (bz_wr (bz_wr s5 z 2 (z + 138)) (z + 165) 0 (z + 165 + 1)) z 4 (z + 165)) (z + 167) 0 (z + 167 + 1)) (z + 167) 1 (z + 167 + 2)) (z + 167) 2 (z + 167 + 3)) (z + 167) 3 (z + 167 + 4)) z 5 (z + 167)) z 6 (z + 172)).2 b = s5.2 b := fun b q1 q2 q3 => by
    rw [wr_o _ q1, wr_o _ q1, wr_o _ q3, wr_o _ q3, wr_o _ q3, wr_o _ q3, wr_o _ q1, wr_o _ q2, wr_o _ q1]
  have s43 : ∀ b, b ≠ z → s4.2 b = s3.2 b := fun b hb => by rw [es4, wr_o _ hb]
  have s21 : ∀ b, b ≠ z → s2.2 b = s1.2 b := fun b hb => by rw [es2, wr_o _ hb]
  have i4 : ∀ b, s4.1 b = s3.1 b := fun b => by rw [es4]; rfl
  have i2 : ∀ b, s2.1 b = s1.1 b := fun b => by rw [es2]; rfl
  refine ⟨⟨hz, ⟨?_, ?_, ?_, ?_, ?_, ?_, ?_, ?_⟩, ⟨?_, ?_, ?_, ?_⟩, ?_, ?_, fun i hi => ?_, fun i hi => ?_⟩, ⟨fun i hi => ?_, fun i hi => ?_, fun i hi => ?_⟩, ?_, fun b hb => ?_⟩
  · rw [wr_so _ (by omega), wr_so _ (by omega), wr_o _ (by omega), wr_o _ (by omega), wr_o _ (by omega), wr_o _ (by omega), wr_so _ (by omega), wr_o _ (by omega), wr_so _ (by omega), (c3 z (by omega)).2, es4, wr_so _ (by omega), (b3 z (by omega)).2, es2, wr_s]
  · rw [wr_so _ (by omega), wr_so _ (by omega), wr_o _ (by omega), wr_o _ (by omega), wr_o _ (by omega), wr_o _ (by omega), wr_so _ (by omega), wr_o _ (by omega), wr_so _ (by omega), (c3 z (by omega)).2, es4, wr_s]
  · rw [wr_so _ (by omega), wr_so _ (by omega), wr_o _ (by omega), wr_o _ (by omega), wr_o _ (by omega), wr_o _ (by omega), wr_so _ (by omega), wr_o _ (by omega), wr_s]
  · rw [wr_so _ (by omega), wr_so _ (by omega), wr_o _ (by omega), wr_o _ (by omega), wr_o _ (by omega), wr_o _ (by omega), wr_s]
  · rw [wr_so _ (by omega), wr_s]
  · rw [wr_s]
  · rw [r5 _ (by omega) (by omega) (by omega), (c3 _ (by omega)).2, s43 _ (by omega)]
    exact b1
  · rw [wr_o _ (by omega), wr_o _ (by omega), wr_o _ (by omega), wr_o _ (by omega), wr_o _ (by omega), wr_o _ (by omega), wr_o _ (by omega), wr_s]
  · rw [wr_o _ (by omega), wr_o _ (by omega), wr_so _ (by omega), wr_so _ (by omega), wr_so _ (by omega), wr_s]
  · rw [wr_o _ (by omega), wr_o _ (by omega), wr_so _ (by omega), wr_so _ (by omega), wr_s]
  · rw [wr_o _ (by omega), wr_o _ (by omega), wr_so _ (by omega), wr_s]
  · rw [wr_o _ (by omega), wr_o _ (by omega), wr_s]
  · exact a1.keep fun x q1 q2 => by rw [r5 _ (by omega) (by omega) (by omega), (c3 _ (by omega)).2, s43 _ (by omega), (b3 _ (by omega)).2, s21 _ (by omega)]
  · exact c1.keep fun x q1 q2 => by rw [r5 _ (by omega) (by omega) (by omega)]
  · have := (b2 i hi).2.1
    rw [show z + 28 + 2 + 27 * i = z + 30 + 27 * i by omega] at this
    exact this.keep fun x q1 q2 => by rw [r5 _ (by omega) (by omega) (by omega), (c3 _ (by omega)).2, s43 _ (by omega)]
  · have := (b2 i hi).1
    rw [r5 _ (by omega) (by omega) (by omega), (c3 _ (by omega)).2, s43 _ (by omega)]
    rw [show z + 28 + 1 = z + 29 by omega] at this
    rw [this]
  · rw [i5, (c3 _ (by omega)).1, i4, (b3 _ (by omega)).1, i2]
    exact a2 i hi
  · rw [i5]
    exact c2 i hi
  · have := (b2 i hi).2.2
    rw [show z + 28 + 2 + 27 * i = z + 30 + 27 * i by omega] at this
    intro j hj
    rw [i5, (c3 _ (by omega)).1, i4]
    exact this j hj
  · rw [i5, (c3 _ (by omega)).1, i4, (b3 _ (by omega)).1, i2]
    exact a5
  · rw [i5]
    by_cases h1 : z + 165 ≤ b
    · rw [(c3 _ (by omega)).1, i4, (b3 _ (by omega)).1, i2, (a3 _ (by omega)).1]
    · rw [(c3 _ (by omega)).1, i4]
      by_cases h2 : b = z + 28
      · subst h2
        rw [b4, i2, (a3 _ (by omega)).1]
      · rw [(b3 _ (by omega)).1, i2]
        by_cases h3 : b = z
        · rw [(a3 _ (by omega)).1]
        · rw [a4 _ (by omega)]
theorem sm_init (z : Nat) (hz : 0 < z) : bz_Rel z 0 (ini_B (fun _ _ => 0, fun _ _ => 0) z) (ini_R (fun _ _ => 0, fun _ _ => 0) (z + 173)) := by
  obtain ⟨h1, h2, h3, h4⟩ := ini_B_ok hz
  have m1 : (ini_R (fun _ _ => 0, fun _ _ => 0) (z + 173)).1 (z + 174) = upd (fun _ => 0) 2 500 := by
    unfold ini_R
    rw [show z + 174 = z + 173 + 1 by omega, wi_s]
    rfl
  have m2 : ∀ b, b ≠ z + 174 → (ini_R (fun _ _ => 0, fun _ _ => 0) (z + 173)).1 b = fun _ => 0 := fun b hb => by
    unfold ini_R
    rw [wi_o _ _ _ (by omega)]
    rfl
  have hM : LyM (ini_R (fun _ _ => 0, fun _ _ => 0) (z + 173)).2 (z + 173) := by
    unfold ini_R LyM
    rw [wi_2]
    refine ⟨?_, ?_, ?_, ?_, ?_⟩
    · rw [wr_so _ (by omega), wr_so _ (by omega), wr_so _ (by omega), wr_so _ (by omega), wr_s]
    · rw [wr_so _ (by omega), wr_so _ (by omega), wr_so _ (by omega), wr_s]
    · rw [wr_so _ (by omega), wr_so _ (by omega), wr_s]
    · rw [wr_so _ (by omega), wr_s]
    · rw [wr_s]
  refine ⟨fun i => i, 0, ⟨fun i hi => hi, fun i j _ _ e => e⟩, h1, hM, ⟨0, 0, 0, 0, 0, ?_, ?_, by omega, by omega⟩, h2, ?_, ⟨by omega, ?_, ?_, fun j hj => absurd hj (Nat.not_lt_zero _)⟩, Or.inl ⟨?_, ?_⟩, ⟨0, by omega, ?_, ?_, fun j hj => absurd hj (Nat.not_lt_zero _)⟩⟩
  · unfold RS
    rw [h3, m1, h4 (z + 1 + 23) (by omega), h4 (z + 1 + 18) (by omega), h4 (z + 1 + 24) (by omega), h4 (z + 1 + 25) (by omega), h4 (z + 1 + 26) (by omega)]
    refine ⟨⟨rfl, rfl⟩, ⟨rfl, rfl⟩, ⟨rfl, rfl, rfl⟩, ⟨rfl, rfl⟩, ⟨rfl, rfl, rfl⟩, fun i hi => absurd hi (Nat.not_lt_zero _), fun j hj => absurd hj (Nat.not_lt_zero _), fun j hj => ⟨?_, ?_, ?_⟩⟩
    · rw [up_o _ _ (by omega)]
    · rw [up_o _ _ (by omega)]
    · rw [up_o _ _ (by omega)]
  · rw [m1]
    exact ⟨by omega, by omega, by omega, by omega, by omega, Or.inl rfl, fun i hi => absurd hi (Nat.not_lt_zero _), fun j hj => absurd hj (Nat.not_lt_zero _)⟩
  · rw [h4 z (by omega), m2 _ (by omega)]
  · rw [h4 _ (by omega)]; rfl
  · rw [m2 _ (by omega)]; rfl
  · rw [h4 z (by omega)]
  · rw [m2 _ (by omega)]
  · rw [h4 _ (by omega)]; rfl
  · rw [m2 _ (by omega)]; rfl
def bzL : List Nat := [1, 30, 57, 84, 111, 138]
theorem kB_1 : ∀ j, j < 173 → kB j = (1, 0) → ∃ s, s ∈ bzL ∧ j = s + 23 := by decide +kernel
theorem kB_2 : ∀ j, j < 173 → kB j = (2, 0) → j = 28 := by decide +kernel
theorem kB_3 : ∀ j, j < 173 → kB j = (3, 0) → ∃ s, s ∈ bzL ∧ ∃ i, i < 8 ∧ j = s + 2 + 2 * i := by decide +kernel
theorem kB_4 : ∀ j, j < 173 → kB j = (4, 0) → j ∈ bzL := by decide +kernel
theorem kB_5 : ∀ j, j < 173 → kB j = (5, 0) → j = 167 ∨ ∃ s, s ∈ bzL ∧ j = s + 18 := by decide +kernel
theorem kB_6 : ∀ j, j < 173 → kB j = (6, 0) → j = 165 := by decide +kernel
theorem kB_7 : ∀ j, j < 173 → kB j = (7, 0) → j = 0 := by decide +kernel
theorem kB_11 : ∀ j, j < 173 → (kB j).1 = 11 → kB j = (11, 8) ∧ ∃ s, s ∈ bzL ∧ j = s + 1 := by decide +kernel
theorem kB_12 : ∀ j, j < 173 → (kB j).1 = 12 → kB j = (12, 4) ∧ j = 29 := by decide +kernel
theorem kB_L : ∀ s, s ∈ bzL → s + 26 < 173 ∧ kB s = (4, 0) ∧ kB (s + 1) = (11, 8) ∧ kB (s + 18) = (5, 0) ∧ kB (s + 19) = (9, 10) ∧ kB (s + 20) = (9, 10) ∧ kB (s + 21) = (9, 10) ∧ kB (s + 22) = (9, 10) ∧ kB (s + 23) = (1, 0) ∧ kB (s + 24) = (9, 10) ∧ kB (s + 25) = (9, 10) ∧ kB (s + 26) = (9, 10) ∧ ∀ i, i < 8 → kB (s + 2 + 2 * i) = (3, 0) ∧ kB (s + 3 + 2 * i) = (9, 7) := by decide +kernel
theorem kc_at (z : Nat) {a j : Nat} (h : a = z + j) (hj : j < 173) : kc_ z a = kB j := by
  subst h
  unfold kc_
  rw [if_pos (by omega), Nat.add_sub_cancel_left]
theorem kc_of {z a : Nat} {k : Nat × Nat} (h : kc_ z a = k) (hk : k.1 ≠ 0) : ∃ j, j < 173 ∧ a = z + j ∧ kB j = k := by
  unfold kc_ at h
  by_cases q : z ≤ a ∧ a < z + 173
  · rw [if_pos q] at h
    exact ⟨a - z, by omega, by omega, h⟩
  · rw [if_neg q] at h
    rw [← h] at hk
    exact absurd rfl hk
theorem sm_Rc {z : Nat} (hz : 0 < z) : bz_R (kc_ z) (ini_B (fun _ _ => 0, fun _ _ => 0) z).2 := by
  obtain ⟨⟨-, ⟨a0, a1, a2, a3, a4, a5, a6, a7⟩, ⟨t0, t1, t2, t3⟩, l1, l2, l3, l4⟩, -⟩ := ini_B_ok hz
  have hB : ∀ s, s ∈ bzL → LyS (ini_B (fun _ _ => 0, fun _ _ => 0) z).2 (z + s) := fun s hs => by
    unfold bzL at hs
    simp only [List.mem_cons, List.not_mem_nil, or_false] at hs
    rcases hs with rfl | rfl | rfl | rfl | rfl | rfl
    · exact l1
    · exact l3 0 (by omega)
    · exact l3 1 (by omega)
    · exact l3 2 (by omega)
    · exact l3 3 (by omega)
    · exact l2
  unfold bz_R
  refine ⟨?_, ?_, ?_, ?_, ?_, ?_, ?_, ?_, ?_, ?_, ?_, ?_, ?_, ?_, ?_, ?_, ?_, ?_, ?_, ?_, ?_⟩
  · intro a h
    obtain ⟨j, hj, rfl, hk⟩ := kc_of h (by decide)
    obtain ⟨s, hs, rfl⟩ := kB_1 j hj hk
    have L := kB_L s hs
    rw [show z + (s + 23) = z + s + 23 by omega, (hB s hs).2.2.2.2.2.1, kc_at z (j := s + 24) (by omega) (by omega)]
    exact L.2.2.2.2.2.2.2.2.2.1
  · intro a h
    obtain ⟨j, hj, rfl, hk⟩ := kc_of h (by decide)
    obtain ⟨s, hs, rfl⟩ := kB_1 j hj hk
    have L := kB_L s hs
    rw [show z + (s + 23) = z + s + 23 by omega, (hB s hs).2.2.2.2.2.2.1, kc_at z (j := s + 25) (by omega) (by omega)]
    exact L.2.2.2.2.2.2.2.2.2.2.1
  · intro a h
    obtain ⟨j, hj, rfl, hk⟩ := kc_of h (by decide)
    obtain ⟨s, hs, rfl⟩ := kB_1 j hj hk
    have L := kB_L s hs
    rw [show z + (s + 23) = z + s + 23 by omega, (hB s hs).2.2.2.2.2.2.2, kc_at z (j := s + 26) (by omega) (by omega)]
    exact L.2.2.2.2.2.2.2.2.2.2.2.1
  · intro a h
    obtain ⟨j, hj, rfl, hk⟩ := kc_of h (by decide)
    have := kB_2 j hj hk
    subst this
    rw [a6, kc_at z (j := 29) rfl (by omega)]
    decide +kernel
  · intro a h
    obtain ⟨j, hj, rfl, hk⟩ := kc_of h (by decide)
    obtain ⟨s, hs, i, hi, rfl⟩ := kB_3 j hj hk
    have L := kB_L s hs
    rw [show z + (s + 2 + 2 * i) = z + s + 2 + 2 * i by omega, ((hB s hs).2.2.2.1 i hi).2, kc_at z (j := s + 3 + 2 * i) (by omega) (by omega)]
    exact (L.2.2.2.2.2.2.2.2.2.2.2.2 i hi).2
  · intro a h
    obtain ⟨j, hj, rfl, hk⟩ := kc_of h (by decide)
    have hs := kB_4 j hj hk
    have L := kB_L j hs
    rw [(hB j hs).1, kc_at z (j := j + 1) (by omega) (by omega)]
    exact L.2.2.1
  · intro a h
    obtain ⟨j, hj, rfl, hk⟩ := kc_of h (by decide)
    have hs := kB_4 j hj hk
    have L := kB_L j hs
    rw [(hB j hs).2.1, kc_at z (j := j + 18) (by omega) (by omega)]
    exact L.2.2.2.1
  · intro a h
    obtain ⟨j, hj, rfl, hk⟩ := kc_of h (by decide)
    have hs := kB_4 j hj hk
    have L := kB_L j hs
    rw [(hB j hs).2.2.1, kc_at z (j := j + 23) (by omega) (by omega)]
    exact L.2.2.2.2.2.2.2.2.1
  · intro a h
    obtain ⟨j, hj, rfl, hk⟩ := kc_of h (by decide)
    rcases kB_5 j hj hk with rfl | ⟨s, hs, rfl⟩
    · rw [t0, kc_at z (j := 168) rfl (by omega)]
      decide +kernel
    · have L := kB_L s hs
      rw [show z + (s + 18) = z + s + 18 by omega, (hB s hs).2.2.2.2.1.1, kc_at z (j := s + 19) (by omega) (by omega)]
      exact L.2.2.2.2.1
  · intro a h
    obtain ⟨j, hj, rfl, hk⟩ := kc_of h (by decide)
    rcases kB_5 j hj hk with rfl | ⟨s, hs, rfl⟩
    · rw [t1, kc_at z (j := 169) rfl (by omega)]
      decide +kernel
    · have L := kB_L s hs
      rw [show z + (s + 18) = z + s + 18 by omega, (hB s hs).2.2.2.2.1.2.1, kc_at z (j := s + 20) (by omega) (by omega)]
      exact L.2.2.2.2.2.1
  · intro a h
    obtain ⟨j, hj, rfl, hk⟩ := kc_of h (by decide)
    rcases kB_5 j hj hk with rfl | ⟨s, hs, rfl⟩
    · rw [t2, kc_at z (j := 170) rfl (by omega)]
      decide +kernel
    · have L := kB_L s hs
      rw [show z + (s + 18) = z + s + 18 by omega, (hB s hs).2.2.2.2.1.2.2.1, kc_at z (j := s + 21) (by omega) (by omega)]
      exact L.2.2.2.2.2.2.1
  · intro a h
    obtain ⟨j, hj, rfl, hk⟩ := kc_of h (by decide)
    rcases kB_5 j hj hk with rfl | ⟨s, hs, rfl⟩
    · rw [t3, kc_at z (j := 171) rfl (by omega)]
      decide +kernel
    · have L := kB_L s hs
      rw [show z + (s + 18) = z + s + 18 by omega, (hB s hs).2.2.2.2.1.2.2.2, kc_at z (j := s + 22) (by omega) (by omega)]
      exact L.2.2.2.2.2.2.2.1
  · intro a h
    obtain ⟨j, hj, rfl, hk⟩ := kc_of h (by decide)
    have := kB_6 j hj hk
    subst this
    rw [a7, kc_at z (j := 166) rfl (by omega)]
    decide +kernel
  · intro a h
    obtain ⟨j, hj, rfl, hk⟩ := kc_of h (by decide)
    have := kB_7 j hj hk
    subst this
    rw [Nat.add_zero, a0, kc_at z (j := 1) rfl (by omega)]
    decide +kernel
  · intro a h
    obtain ⟨j, hj, rfl, hk⟩ := kc_of h (by decide)
    have := kB_7 j hj hk
    subst this
    rw [Nat.add_zero, a1, kc_at z (j := 28) rfl (by omega)]
    decide +kernel
  · intro a h
    obtain ⟨j, hj, rfl, hk⟩ := kc_of h (by decide)
    have := kB_7 j hj hk
    subst this
    rw [Nat.add_zero, a2, kc_at z (j := 138) rfl (by omega)]
    decide +kernel
  · intro a h
    obtain ⟨j, hj, rfl, hk⟩ := kc_of h (by decide)
    have := kB_7 j hj hk
    subst this
    rw [Nat.add_zero, a3, kc_at z (j := 165) rfl (by omega)]
    decide +kernel
  · intro a h
    obtain ⟨j, hj, rfl, hk⟩ := kc_of h (by decide)
    have := kB_7 j hj hk
    subst this
    rw [Nat.add_zero, a4, kc_at z (j := 167) rfl (by omega)]
    decide +kernel
  · intro a h
    obtain ⟨j, hj, rfl, hk⟩ := kc_of h (by decide)
    have := kB_7 j hj hk
    subst this
    rw [Nat.add_zero, a5, kc_at z (j := 172) rfl (by omega)]
    decide +kernel
  · intro a n h i hi
    obtain ⟨j, hj, rfl, hk⟩ := kc_of h (by simp)
    obtain ⟨k8, s, hs, rfl⟩ := kB_11 j hj (by rw [hk])
    have L := kB_L s hs
    rw [k8] at hk
    have hn : 8 = n := congrArg Prod.snd hk
    rw [show z + (s + 1) = z + s + 1 by omega, ((hB s hs).2.2.2.1 i (by omega)).1, kc_at z (j := s + 2 + 2 * i) (by omega) (by omega)]
    exact (L.2.2.2.2.2.2.2.2.2.2.2.2 i (by omega)).1
  · intro a n h i hi
    obtain ⟨j, hj, rfl, hk⟩ := kc_of h (by simp)
    obtain ⟨k4, rfl⟩ := kB_12 j hj (by rw [hk])
    rw [k4] at hk
    have hn : 4 = n := congrArg Prod.snd hk
    rw [l4 i (by omega)]
    show kc_ z (z + 30 + 27 * i) = (4, 0)
    rcases (show i = 0 ∨ i = 1 ∨ i = 2 ∨ i = 3 by omega) with rfl | rfl | rfl | rfl
    · rw [kc_at z (j := 30) (by omega) (by omega)]; decide +kernel
    · rw [kc_at z (j := 57) (by omega) (by omega)]; decide +kernel
    · rw [kc_at z (j := 84) (by omega) (by omega)]; decide +kernel
    · rw [kc_at z (j := 111) (by omega) (by omega)]; decide +kernel
