/-! copies of a state: the class's blocks, the model's rows -/
theorem cpy_in {f g : Nat → Int32} {n j : Nat} (h : j < n) : va_cpy f g 0 0 n j = f j := by
  have := pk_cpy_in (f := f) (g := g) (sp := 0) (dp := 0) (n := n) (j := j) (Nat.zero_le _) (by omega)
  rw [this]
  congr 1
  omega
theorem ne_q (q : Nat) : q + 1 ≠ q := by omega
section CPY
variable {σ : bz_W} {a b q p e f i j ck cnt t sz nx : Nat} {r : Nat → Int32}
theorem c_mcopy (hq : σ.2 q 1 = q + 1) (hp : σ.2 p 1 = p + 1) (hd : q + 1 < p ∨ p + 1 < q) : ∃ σ', f_X2_copyFrom σ q p = some (0, σ') ∧ σ'.2 = σ.2 ∧ (∀ b, b ≠ q → b ≠ q + 1 → σ'.1 b = σ.1 b) ∧ (∀ j, 2 ≤ j → j < 15 → σ'.1 q j = σ.1 p j) ∧ σ'.1 q 0 = σ.1 q 0 ∧ ∀ k, k < 7 → σ'.1 (q + 1) k = σ.1 (p + 1) k := by
  have n1 : p ≠ q := by omega
  have n2 : p + 1 ≠ q := by omega
  have n3 : p + 1 ≠ q + 1 := by omega
  have n4 : q ≠ q + 1 := by omega
  have n5 : q + 1 ≠ q := by omega
  unfold f_X2_copyFrom
  simp only [lt_d, wi_2, hq, hp, wi_o _ _ _ n1, wi_o _ _ _ n2, wi_o _ _ _ n5]
  refine ⟨_, rfl, rfl, fun b h1 h2 => ?_, fun j h1 h2 => ?_, ?_, fun k hk => ?_⟩
  · rw [wb_o _ _ h2]
    simp only [wi_o _ _ _ h1]
  · rw [wb_o _ _ n4]
    rcases (show j = 2 ∨ j = 3 ∨ j = 4 ∨ j = 5 ∨ j = 6 ∨ j = 7 ∨ j = 8 ∨ j = 9 ∨ j = 10 ∨ j = 11 ∨ j = 12 ∨ j = 13 ∨ j = 14 by omega) with rfl | rfl | rfl | rfl | rfl | rfl | rfl | rfl | rfl | rfl | rfl | rfl | rfl <;> simp [wi_s, upd]
  · rw [wb_o _ _ n4]
    simp [wi_s, upd]
  · rw [wb_s, cpy_in hk]
theorem c_tcopy (he : σ.2 e 0 = e + 1 ∧ σ.2 e 1 = e + 2 ∧ σ.2 e 2 = e + 3 ∧ σ.2 e 3 = e + 4) (hf : σ.2 f 0 = f + 1 ∧ σ.2 f 1 = f + 2 ∧ σ.2 f 2 = f + 3 ∧ σ.2 f 3 = f + 4) (hd : e + 4 < f ∨ f + 4 < e) : ∃ σ', f_X4_copyFrom σ e f = some (0, σ') ∧ σ'.2 = σ.2 ∧ (∀ b, (b < e ∨ e + 4 < b) → σ'.1 b = σ.1 b) ∧ (σ'.1 e 4 = σ.1 f 4 ∧ σ'.1 e 5 = σ.1 f 5) ∧ ∀ k, k < 10 → σ'.1 (e + 1) k = σ.1 (f + 1) k ∧ σ'.1 (e + 2) k = σ.1 (f + 2) k ∧ σ'.1 (e + 3) k = σ.1 (f + 3) k ∧ σ'.1 (e + 4) k = σ.1 (f + 4) k := by
  obtain ⟨e1, e2, e3, e4⟩ := he
  obtain ⟨f1, f2, f3, f4⟩ := hf
  unfold f_X4_copyFrom
  simp only [lt_d, wi_2, wb_2, e1, e2, e3, e4, f1, f2, f3, f4]
  refine ⟨_, rfl, rfl, fun b hb => ?_, ⟨?_, ?_⟩, fun k hk => ⟨?_, ?_, ?_, ?_⟩⟩
  · rw [wi_o _ _ _ (by omega), wi_o _ _ _ (by omega), wb_o _ _ (by omega), wb_o _ _ (by omega), wb_o _ _ (by omega), wb_o _ _ (by omega)]
  · rw [wi_so _ _ (by omega), wi_ss, wb_o _ _ (by omega), wb_o _ _ (by omega), wb_o _ _ (by omega), wb_o _ _ (by omega)]
  · rw [wi_ss, wi_o _ _ _ (by omega), wb_o _ _ (by omega), wb_o _ _ (by omega), wb_o _ _ (by omega), wb_o _ _ (by omega)]
  · rw [wi_o _ _ _ (by omega), wi_o _ _ _ (by omega), wb_o _ _ (by omega), wb_o _ _ (by omega), wb_o _ _ (by omega), wb_s, cpy_in hk]
  · rw [wi_o _ _ _ (by omega), wi_o _ _ _ (by omega), wb_o _ _ (by omega), wb_o _ _ (by omega), wb_s, cpy_in hk, wb_o _ _ (by omega)]
  · rw [wi_o _ _ _ (by omega), wi_o _ _ _ (by omega), wb_o _ _ (by omega), wb_s, cpy_in hk, wb_o _ _ (by omega), wb_o _ _ (by omega)]
  · rw [wi_o _ _ _ (by omega), wi_o _ _ _ (by omega), wb_s, cpy_in hk, wb_o _ _ (by omega), wb_o _ _ (by omega), wb_o _ _ (by omega)]
theorem c_ecopy (he : σ.2 e 0 = e + 1 ∧ σ.2 e 1 = e + 2 ∧ σ.2 e 2 = e + 3) (hf : σ.2 f 0 = f + 1 ∧ σ.2 f 1 = f + 2 ∧ σ.2 f 2 = f + 3) (hd : e + 3 < f ∨ f + 3 < e) : ∃ σ', f_X0_copyFrom σ e f = some (0, σ') ∧ σ'.2 = σ.2 ∧ (∀ b, (b < e ∨ e + 3 < b) → σ'.1 b = σ.1 b) ∧ σ'.1 e 3 = σ.1 f 3 ∧ ∀ k, k < 10 → σ'.1 (e + 1) k = σ.1 (f + 1) k ∧ σ'.1 (e + 2) k = σ.1 (f + 2) k ∧ σ'.1 (e + 3) k = σ.1 (f + 3) k := by
  obtain ⟨e1, e2, e3⟩ := he
  obtain ⟨f1, f2, f3⟩ := hf
  unfold f_X0_copyFrom
  simp only [lt_d, wi_2, wb_2, e1, e2, e3, f1, f2, f3]
  refine ⟨_, rfl, rfl, fun b hb => ?_, ?_, fun k hk => ⟨?_, ?_, ?_⟩⟩
  · rw [wi_o _ _ _ (by omega), wb_o _ _ (by omega), wb_o _ _ (by omega), wb_o _ _ (by omega)]
  · rw [wi_ss, wb_o _ _ (by omega), wb_o _ _ (by omega), wb_o _ _ (by omega)]
  · rw [wi_o _ _ _ (by omega), wb_o _ _ (by omega), wb_o _ _ (by omega), wb_s, cpy_in hk]
  · rw [wi_o _ _ _ (by omega), wb_o _ _ (by omega), wb_s, cpy_in hk, wb_o _ _ (by omega)]
  · rw [wi_o _ _ _ (by omega), wb_s, cpy_in hk, wb_o _ _ (by omega), wb_o _ _ (by omega)]
theorem c_scopyL (hA : LyS σ.2 a) (hB : LyS σ.2 b) (hd : a + 27 ≤ b ∨ b + 27 ≤ a) (hc : cnt ≤ 8) (h0 : σ.1 b 3 = nI cnt) {k : bz_W → Option (Int32 × bz_W)} : ∀ fuel j, j ≤ cnt → cnt - j < fuel → ∀ σ1 : bz_W, σ1.2 = σ.2 → (∀ x, (x < a + 2 ∨ a + 17 < x) → σ1.1 x = σ.1 x) → (∀ i, i < 8 → σ1.1 (a + 2 + 2 * i) 0 = σ.1 (a + 2 + 2 * i) 0) → (∀ i, i < j → (∀ w, 2 ≤ w → w < 15 → σ1.1 (a + 2 + 2 * i) w = σ.1 (b + 2 + 2 * i) w) ∧ ∀ w, w < 7 → σ1.1 (a + 3 + 2 * i) w = σ.1 (b + 3 + 2 * i) w) → ∃ σ2 : bz_W, f_X3_copyFrom_L2 a b k fuel (nI j) σ1 = k σ2 ∧ σ2.2 = σ.2 ∧ (∀ x, (x < a + 2 ∨ a + 17 < x) → σ2.1 x = σ.1 x) ∧ (∀ i, i < 8 → σ2.1 (a + 2 + 2 * i) 0 = σ.1 (a + 2 + 2 * i) 0) ∧ (∀ i, i < cnt → (∀ w, 2 ≤ w → w < 15 → σ2.1 (a + 2 + 2 * i) w = σ.1 (b + 2 + 2 * i) w) ∧ ∀ w, w < 7 → σ2.1 (a + 3 + 2 * i) w = σ.1 (b + 3 + 2 * i) w) := by
  intro fuel
  induction fuel with
  | zero => intro j hj h; omega
  | succ fu ih =>
    intro j hj h σ1 hr hx hn hm
    rw [f_X3_copyFrom_L2]
    have e0 : σ1.1 b 3 = nI cnt := by rw [hx b (by omega)]; exact h0
    rw [e0]
    by_cases hjn : j = cnt
    · subst hjn
      rw [if_pos (nI_le (Nat.le_refl _) (by omega))]
      exact ⟨σ1, rfl, hr, hx, hn, hm⟩
    · have hj8 : j < 8 := by omega
      rw [if_neg (nI_ge (by omega) (by omega)), in_nI hj8 (by omega), ck_t, ck_t, nI_clamp (by omega), hr, hA.1, hB.1, (hA.2.2.2.1 j hj8).1, (hB.2.2.2.1 j hj8).1]
      obtain ⟨σ3, g1, g2, g3, g4, g5, g6⟩ := c_mcopy (σ := σ1) (q := a + 2 + 2 * j) (p := b + 2 + 2 * j) (by rw [hr, (hA.2.2.2.1 j hj8).2]; omega) (by rw [hr, (hB.2.2.2.1 j hj8).2]; omega) (by omega)
      rw [g1, bd_s, lt_d, nI_1]
      refine ih (j + 1) (by omega) (by omega) σ3 (g2.trans hr) (fun x hx1 => ?_) (fun i hi => ?_) (fun i hi => ⟨fun w h1 h2 => ?_, fun w h1 => ?_⟩)
      · rw [g3 x (by omega) (by omega)]
        exact hx x hx1
      · by_cases hij : i = j
        · subst hij
          rw [g5]
          exact hn i hi
        · rw [g3 _ (by omega) (by omega)]
          exact hn i hi
      · by_cases hij : i = j
        · subst hij
          rw [g4 w h1 h2, hx _ (by omega)]
        · rw [g3 _ (by omega) (by omega)]
          exact (hm i (by omega)).1 w h1 h2
      · by_cases hij : i = j
        · subst hij
          rw [show a + 3 + 2 * i = a + 2 + 2 * i + 1 by omega, g6 w h1, show b + 3 + 2 * i = b + 2 + 2 * i + 1 by omega, hx _ (by omega)]
        · rw [g3 _ (by omega) (by omega)]
          exact (hm i (by omega)).2 w h1
theorem c_scopy (hA : LyS σ.2 a) (hB : LyS σ.2 b) (hd : a + 27 ≤ b ∨ b + 27 ≤ a) (hS : RS σ b r cnt ck t sz nx) (hI : IS r cnt ck t sz nx) : ∃ σ', f_X3_copyFrom σ a b = some (0, σ') ∧ σ'.2 = σ.2 ∧ (∀ x, (x < a ∨ a + 27 ≤ x) → σ'.1 x = σ.1 x) ∧ (NmS σ a → NmS σ' a) ∧ RS σ' a r cnt ck t sz nx := by
  obtain ⟨hc, hck, ht, hsz, hnx, hfan, hIM, hIT⟩ := hI
  obtain ⟨⟨s0, r0⟩, ⟨s4, r1⟩, ⟨r2, r3, r5⟩, ⟨s23, r6⟩, ⟨s18, s18', r4⟩, hRM, hit, hev⟩ := hS
  unfold f_X3_copyFrom
  obtain ⟨σ2, g1, g2, g3, g4, g5⟩ := c_scopyL (k := (fun (σ11 : bz_W) => bd_ (f_X4_copyFrom σ11 (σ11.2 a 1) (σ11.2 b 1)) fun _ σ15 => bd_ (f_X0_copyFrom σ15 (σ15.2 a 2) (σ15.2 b 2)) fun _ σ19 => lt_ (bz_wi σ19 a 3 (σ19.1 b 3)) fun σ20 => lt_ (bz_wi σ20 a 4 (σ20.1 b 4)) fun σ21 => lt_ (bz_wi σ21 a 5 (σ21.1 b 5)) fun σ22 => ck_ (ib_ (σ22.1 b 6)) (lt_ (bz_wi σ22 a 6 (σ22.1 b 6)) fun σ24 => lt_ (bz_wi σ24 a 7 (σ24.1 b 7)) fun σ25 => some (0, σ25)))) hA hB hd hc s0 1100 0 (Nat.zero_le _) (by omega) σ rfl (fun _ _ => rfl) (fun _ _ => rfl) (fun i hi => absurd hi (Nat.not_lt_zero _))
  rw [nI_0] at g1
  rw [g1]
  obtain ⟨σ3, k1, k2, k3, k4, k5⟩ := c_tcopy (σ := σ2) (e := a + 18) (f := b + 18) (by rw [g2]; exact hA.2.2.2.2.1) (by rw [g2]; exact hB.2.2.2.2.1) (by omega)
  obtain ⟨σ4, l1, l2, l3, l4, l5⟩ := c_ecopy (σ := σ3) (e := a + 23) (f := b + 23) (by rw [k2, g2]; exact hA.2.2.2.2.2) (by rw [k2, g2]; exact hB.2.2.2.2.2) (by omega)
  have na : b ≠ a := by omega
  have hfx : ∀ x, (x < a + 2 ∨ a + 27 ≤ x) → σ4.1 x = σ.1 x := fun x hx => by rw [l3 x (by omega), k3 x (by omega), g3 x (by omega)]
  have hb4 : σ4.1 b = σ.1 b := hfx b (by omega)
  have hib : ib_ (σ.1 b 6) = true := by
    rw [← r3]
    rcases hfan with h | h <;> rw [h] <;> rfl
  simp only [g2, hA.2.1, hB.2.1, k1, bd_s, k2, hA.2.2.1, hB.2.2.1, l1, lt_d, wi_o _ _ _ na, hb4, hib, ck_t]
  refine ⟨_, rfl, ?_, fun x hx => ?_, fun hN i hi => ?_, ⟨⟨?_, r0⟩, ⟨?_, r1⟩, ⟨?_, ?_, ?_⟩, ⟨?_, r6⟩, ⟨?_, ?_, r4⟩, fun i hi => ?_, fun j hj => ?_, fun j hj => ?_⟩⟩
  · show σ4.2 = σ.2
    rw [l2, k2, g2]
  · rw [wi_o _ _ _ (by omega), wi_o _ _ _ (by omega), wi_o _ _ _ (by omega), wi_o _ _ _ (by omega), wi_o _ _ _ (by omega)]
    exact hfx x (by omega)
  · rw [wi_o _ _ _ (by omega), wi_o _ _ _ (by omega), wi_o _ _ _ (by omega), wi_o _ _ _ (by omega), wi_o _ _ _ (by omega), l3 _ (by omega), k3 _ (by omega), g4 i hi]
    exact hN i hi
  · simp [wi_s, upd, s0]
  · simp [wi_s, upd, s4]
  · simp [wi_s, upd, r2]
  · simp [wi_s, upd, r3]
  · simp [wi_s, upd, r5]
  · rw [wi_o _ _ _ (by omega), wi_o _ _ _ (by omega), wi_o _ _ _ (by omega), wi_o _ _ _ (by omega), wi_o _ _ _ (by omega), l4, k3 _ (by omega), g3 _ (by omega)]
    exact s23
  · rw [wi_o _ _ _ (by omega), wi_o _ _ _ (by omega), wi_o _ _ _ (by omega), wi_o _ _ _ (by omega), wi_o _ _ _ (by omega), l3 _ (by omega), k4.1, g3 _ (by omega)]
    exact s18
  · rw [wi_o _ _ _ (by omega), wi_o _ _ _ (by omega), wi_o _ _ _ (by omega), wi_o _ _ _ (by omega), wi_o _ _ _ (by omega), l3 _ (by omega), k4.2, g3 _ (by omega)]
    exact s18'
  · have hi8 : i < 8 := by omega
    obtain ⟨h0, h1, h2, h3, h4, h5, h6, h7, h8, h9, h10, h11, hk, hn⟩ := hRM i hi
    have ex : ∀ w, 2 ≤ w → w < 15 → (bz_wi (bz_wi (bz_wi (bz_wi (bz_wi σ4 a 3 (σ.1 b 3)) a 4 (σ.1 b 4)) a 5 (σ.1 b 5)) a 6 (σ.1 b 6)) a 7 (σ.1 b 7)).1 (a + 2 + 2 * i) w = σ.1 (b + 2 + 2 * i) w := fun w h1 h2 => by
      rw [wi_o _ _ _ (by omega), wi_o _ _ _ (by omega), wi_o _ _ _ (by omega), wi_o _ _ _ (by omega), wi_o _ _ _ (by omega), l3 _ (by omega), k3 _ (by omega)]
      exact (g5 i hi).1 w h1 h2
    refine ⟨?_, ?_, ?_, ?_, ?_, ?_, ?_, ?_, ?_, ?_, ?_, ?_, fun k hk7 => ?_, ?_⟩
    · rw [ex 2 (by omega) (by omega)]; exact h0
    · rw [ex 3 (by omega) (by omega)]; exact h1
    · rw [ex 4 (by omega) (by omega)]; exact h2
    · rw [ex 5 (by omega) (by omega)]; exact h3
    · rw [ex 7 (by omega) (by omega)]; exact h4
    · rw [ex 8 (by omega) (by omega)]; exact h5
    · rw [ex 9 (by omega) (by omega)]; exact h6
    · rw [ex 10 (by omega) (by omega)]; exact h7
    · rw [ex 11 (by omega) (by omega)]; exact h8
    · rw [ex 12 (by omega) (by omega)]; exact h9
    · rw [ex 14 (by omega) (by omega)]; exact h10
    · rw [ex 13 (by omega) (by omega)]; exact h11
    · rw [wi_o _ _ _ (by omega), wi_o _ _ _ (by omega), wi_o _ _ _ (by omega), wi_o _ _ _ (by omega), wi_o _ _ _ (by omega), l3 _ (by omega), k3 _ (by omega), show a + 2 + 2 * i + 1 = a + 3 + 2 * i by omega, (g5 i hi).2 k hk7, show b + 3 + 2 * i = b + 2 + 2 * i + 1 by omega]
      exact hk k hk7
    · rw [ex 6 (by omega) (by omega)]; exact hn
  · have hj10 : nx + j < 10 := by omega
    obtain ⟨i0, i1, i2, i3⟩ := hit j hj
    have ex : ∀ x, a + 18 < x → x < a + 23 → (bz_wi (bz_wi (bz_wi (bz_wi (bz_wi σ4 a 3 (σ.1 b 3)) a 4 (σ.1 b 4)) a 5 (σ.1 b 5)) a 6 (σ.1 b 6)) a 7 (σ.1 b 7)).1 x = σ3.1 x := fun x h1 h2 => by
      rw [wi_o _ _ _ (by omega), wi_o _ _ _ (by omega), wi_o _ _ _ (by omega), wi_o _ _ _ (by omega), wi_o _ _ _ (by omega), l3 _ (by omega)]
    obtain ⟨q1, q2, q3, q4⟩ := k5 (nx + j) hj10
    refine ⟨?_, ?_, ?_, ?_⟩
    · rw [ex _ (by omega) (by omega), show a + 19 = a + 18 + 1 by omega, q1, g3 _ (by omega)]; exact i0
    · rw [ex _ (by omega) (by omega), show a + 20 = a + 18 + 2 by omega, q2, g3 _ (by omega)]; exact i1
    · rw [ex _ (by omega) (by omega), show a + 21 = a + 18 + 3 by omega, q3, g3 _ (by omega)]; exact i2
    · rw [ex _ (by omega) (by omega), show a + 22 = a + 18 + 4 by omega, q4, g3 _ (by omega)]; exact i3
  · obtain ⟨i0, i1, i2⟩ := hev j hj
    have ex : ∀ x, a + 23 < x → x < a + 27 → (bz_wi (bz_wi (bz_wi (bz_wi (bz_wi σ4 a 3 (σ.1 b 3)) a 4 (σ.1 b 4)) a 5 (σ.1 b 5)) a 6 (σ.1 b 6)) a 7 (σ.1 b 7)).1 x = σ4.1 x := fun x h1 h2 => by
      rw [wi_o _ _ _ (by omega), wi_o _ _ _ (by omega), wi_o _ _ _ (by omega), wi_o _ _ _ (by omega), wi_o _ _ _ (by omega)]
    obtain ⟨q1, q2, q3⟩ := l5 j hj
    refine ⟨?_, ?_, ?_⟩
    · rw [ex _ (by omega) (by omega), show a + 24 = a + 23 + 1 by omega, q1, k3 _ (by omega), g3 _ (by omega)]; exact i0
    · rw [ex _ (by omega) (by omega), show a + 25 = a + 23 + 2 by omega, q2, k3 _ (by omega), g3 _ (by omega)]; exact i1
    · rw [ex _ (by omega) (by omega), show a + 26 = a + 23 + 3 by omega, q3, k3 _ (by omega), g3 _ (by omega)]; exact i2
/-- a block that no write has touched -/
theorem RS.keep {σ' : bz_W} (h : RS σ a r cnt ck t sz nx) (hc : cnt ≤ 8) (hx : ∀ x, a ≤ x → x < a + 27 → σ'.1 x = σ.1 x) : RS σ' a r cnt ck t sz nx := by
  unfold RS RM at h ⊢
  rw [hx a (by omega) (by omega), hx (a + 23) (by omega) (by omega), hx (a + 18) (by omega) (by omega), hx (a + 19) (by omega) (by omega), hx (a + 20) (by omega) (by omega), hx (a + 21) (by omega) (by omega), hx (a + 22) (by omega) (by omega), hx (a + 24) (by omega) (by omega), hx (a + 25) (by omega) (by omega), hx (a + 26) (by omega) (by omega)]
  refine ⟨h.1, h.2.1, h.2.2.1, h.2.2.2.1, h.2.2.2.2.1, fun i hi => ?_, h.2.2.2.2.2.2⟩
  rw [hx (a + 2 + 2 * i) (by omega) (by omega), hx (a + 2 + 2 * i + 1) (by omega) (by omega)]
  exact h.2.2.2.2.2.1 i hi
theorem NmS.keep {σ' : bz_W} (h : NmS σ a) (hx : ∀ x, a ≤ x → x < a + 27 → σ'.1 x = σ.1 x) : NmS σ' a := fun i hi => by
  rw [hx (a + 2 + 2 * i) (by omega) (by omega)]
  exact h i hi
end CPY
