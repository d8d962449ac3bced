/-! the class: how its cells lie, what a block of a state says in terms of a row of the model, and what is read off it -/
def LyS (ρ : Nat → Nat → Nat) (a : Nat) : Prop := ρ a 0 = a + 1 ∧ ρ a 1 = a + 18 ∧ ρ a 2 = a + 23 ∧ (∀ i, i < 8 → ρ (a + 1) i = a + 2 + 2 * i ∧ ρ (a + 2 + 2 * i) 1 = a + 3 + 2 * i) ∧ (ρ (a + 18) 0 = a + 19 ∧ ρ (a + 18) 1 = a + 20 ∧ ρ (a + 18) 2 = a + 21 ∧ ρ (a + 18) 3 = a + 22) ∧ (ρ (a + 23) 0 = a + 24 ∧ ρ (a + 23) 1 = a + 25 ∧ ρ (a + 23) 2 = a + 26)
def NmS (σ : bz_W) (a : Nat) : Prop := ∀ i, i < 8 → σ.1 (a + 2 + 2 * i) 0 = nI i
def RM (σ : bz_W) (q : Nat) (r : Nat → Int32) (i : Nat) : Prop :=
  r (8 + 20 * i) = σ.1 q 2 ∧ r (8 + 20 * i + 1) = σ.1 q 3 ∧ r (8 + 20 * i + 2) = σ.1 q 4 ∧ r (8 + 20 * i + 3) = σ.1 q 5 ∧ r (8 + 20 * i + 4) = σ.1 q 7 ∧ r (8 + 20 * i + 5) = σ.1 q 8 ∧ r (8 + 20 * i + 6) = σ.1 q 9 ∧ r (8 + 20 * i + 7) = σ.1 q 10 ∧ r (8 + 20 * i + 8) = σ.1 q 11 ∧ r (8 + 20 * i + 9) = σ.1 q 12 ∧ r (8 + 20 * i + 10) = σ.1 q 14 ∧ r (8 + 20 * i + 11) = σ.1 q 13 ∧ (∀ k, k < 7 → r (8 + 20 * i + 12 + k) = σ.1 (q + 1) k) ∧ σ.1 q 6 = needR r i
def RS (σ : bz_W) (a : Nat) (r : Nat → Int32) (cnt ck t sz nx : Nat) : Prop :=
  (σ.1 a 3 = nI cnt ∧ r 0 = nI cnt) ∧ (σ.1 a 4 = nI ck ∧ r 1 = nI ck) ∧ (r 2 = σ.1 a 5 ∧ r 3 = σ.1 a 6 ∧ r 5 = σ.1 a 7) ∧ (σ.1 (a + 23) 3 = nI t ∧ r 6 = nI t) ∧ (σ.1 (a + 18) 4 = nI sz ∧ σ.1 (a + 18) 5 = nI nx ∧ r 4 = nI (sz - nx)) ∧ (∀ i, i < cnt → RM σ (a + 2 + 2 * i) r i) ∧ (∀ j, nx + j < sz → r (168 + 4 * j) = σ.1 (a + 19) (nx + j) ∧ r (168 + 4 * j + 1) = σ.1 (a + 20) (nx + j) ∧ r (168 + 4 * j + 2) = σ.1 (a + 21) (nx + j) ∧ r (168 + 4 * j + 3) = σ.1 (a + 22) (nx + j)) ∧ (∀ j, j < 10 → r (216 + 3 * j) = σ.1 (a + 24) j ∧ r (216 + 3 * j + 1) = σ.1 (a + 25) j ∧ r (216 + 3 * j + 2) = σ.1 (a + 26) j)
/-- an item of a row: its word and numbers are such as the text allows -/
def IT (r : Nat → Int32) (j : Nat) : Prop := ∃ w f : Nat, r (168 + 4 * j + 1) = nI w ∧ r (168 + 4 * j + 2) = nI f ∧ w ≤ 4 ∧ f ≤ 7 ∧ (w = 4 → f ≤ 1) ∧ (if w = 2 then ∃ p : Nat, p ≤ 7 ∧ r (168 + 4 * j + 3) = nI p else r (168 + 4 * j + 3) = -4)
def IS (r : Nat → Int32) (cnt ck t sz nx : Nat) : Prop := cnt ≤ 8 ∧ ck < 2 ^ 30 ∧ t < 2 ^ 30 ∧ sz ≤ 10 ∧ nx ≤ sz ∧ (r 3 = 0 ∨ r 3 = 1) ∧ (∀ i, i < cnt → IM r ck i) ∧ (∀ j, nx + j < sz → IT r j)
theorem c_ramp {σ : bz_W} {a b c : Int32} {n : Nat} (hb : b = nI n) (h1 : 1 ≤ n) (hn : n < 2 ^ 31) : f_X6_rampCurrent σ a b c = some (rampR a b c, σ) := by
  unfold f_X6_rampCurrent
  have e : (1 : Int32) ≤ b := by rw [hb]; exact nI_le (a := 1) h1 hn
  have e2 : ¬ b = 0 := by rw [hb]; exact nI_ne0 (by omega) hn
  rw [if_pos e]
  have : (!(b == 0)) = true := by simp [e2]
  rw [this]
  rfl
theorem c_heatOf (σ : bz_W) (x : Int32) : f_X6_heatOf σ x = some (x * x / 10, σ) := rfl
theorem c_hsumL {σ : bz_W} {most : Int32} {n : Nat} (hn : n < 2 ^ 30) (h0 : n ≠ 0) {k : Int32 → bz_W → Option (Int32 × bz_W)} : ∀ fuel j, j ≤ n → n - j < fuel → f_X6_heatOfStart_L4 most (nI n) k fuel (hsum most (nI n) j) (nI j) σ = k (hsum most (nI n) n) σ := by
  intro fuel
  induction fuel with
  | zero => intro j hj h; omega
  | succ f ih =>
    intro j hj h
    rw [f_X6_heatOfStart_L4]
    by_cases hjn : j = n
    · subst hjn
      rw [if_pos (nI_le (Nat.le_refl _) (by omega))]
    · rw [if_neg (nI_ge (by omega) (by omega))]
      simp only [c_ramp (n := n) rfl (by omega) (by omega), c_heatOf, bd_s, lt_d, nI_1]
      exact ih (j + 1) (by omega) (by omega)
theorem c_hsum {σ : bz_W} {most : Int32} {n : Nat} (hn : n < 1000) (h0 : n ≠ 0) : f_X6_heatOfStart σ most (nI n) = some (hsum most (nI n) n, σ) := by
  unfold f_X6_heatOfStart
  exact c_hsumL (by omega) h0 1100 0 (Nat.zero_le _) (by omega)
section CLS
variable {σ : bz_W} {a q i j ck cnt t sz nx : Nat} {r : Nat → Int32}
theorem c_findY (hL : LyS σ.2 a) (hc : cnt ≤ 8) (h0 : σ.1 a 3 = nI cnt) (hi : i < cnt) : f_X3_find σ a (nI i) = some (a + 2 + 2 * i, σ) := by
  unfold f_X3_find
  rw [if_neg (nI_pos (by omega)), h0, if_pos (nI_lt hi (by omega)), in_nI (by omega) (by omega), ck_t, nI_clamp (by omega), hL.1, (hL.2.2.2.1 i (by omega)).1]
theorem c_findN (hc : cnt ≤ 8) (h0 : σ.1 a 3 = nI cnt) {x : Int32} (hx : x < 0 ∨ nI cnt ≤ x) : f_X3_find σ a x = some (0, σ) := by
  unfold f_X3_find
  by_cases h : x < 0
  · rw [if_pos h]
  · rw [if_neg h]
    have h2 : nI cnt ≤ x := by rcases hx with h' | h'; exact absurd h' h; exact h'
    rw [if_neg (by rw [h0, Int32.not_lt]; exact h2)]
theorem c_peak (h : RM σ q r i) : f_X2_peak σ q = some (peakR r i, σ) := by
  unfold f_X2_peak peakR
  rw [h.1, h.2.2.1]
theorem c_credit (h : RM σ q r i) : f_X2_credit σ q = some (credR r i, σ) := by
  unfold f_X2_credit credR
  rw [h.2.2.2.1, h.2.2.2.2.2.2.1]
theorem c_turns (h : RM σ q r i) : f_X2_turns σ q = some (turnR r i, σ) := by
  unfold f_X2_turns turnR
  rw [h.2.2.2.2.2.1]
  split
  · rfl
  · split <;> rfl
theorem c_draw (h : RM σ q r i) (hI : IM r ck i) : f_X2_draw σ q = some (drawR r i, σ) := by
  obtain ⟨-, rm, -, -, -, -, -, -, -, -, -, -, e1, -, -, -, -, -, -, -, -, -, -, b1, -⟩ := hI
  have hp := c_peak h
  obtain ⟨h0, h1, h2, h3, h4, h5, h6, h7, h8, -⟩ := h
  have e3 : σ.1 q 3 = nI rm := by rw [← h1]; exact e1
  unfold f_X2_draw drawR
  rw [h5, h1, h8, h7, h0]
  simp only [hp, bd_s, c_ramp (σ := σ) (b := σ.1 q 3) e3 (by omega) (by omega)]
  split
  · rfl
  · split
    · split <;> rfl
    · rfl
theorem c_urg (h : RM σ q r i) (h1 : σ.1 a 4 = nI ck) (hr1 : r 1 = nI ck) (hck : ck < 2 ^ 30) (hI : IM r ck i) : f_X3_urgency σ a q = some (nI (uR r i), σ) := by
  obtain ⟨-, -, -, -, ne, -, -, -, -, si, -, -, -, -, -, e4, -, -, -, -, e9, -, -, -, -, -, b4, -, -, -, -, b9, -, -⟩ := hI
  unfold f_X3_urgency
  obtain ⟨-, -, -, -, h4, -, -, -, -, h9, -⟩ := h
  rw [← h4, ← h9, h1, e4, e9, pk_sub2 b9]
  have d1 : nI (ck - si) / 10 = nI ((ck - si) / 10) := nI_div (d := 10) (by omega) (by decide) (by decide)
  rw [d1, nI_add]
  have u1 : uR r i = ne + (ck - si) / 10 := by simp only [uR, e4, e9, hr1]; rw [vN_nI (by omega), vN_nI (by omega), vN_nI (by omega)]
  rw [u1]
theorem uR_lt (hr1 : r 1 = nI ck) (hck : ck < 2 ^ 30) (hI : IM r ck i) : uR r i < 2 ^ 31 := by
  obtain ⟨-, -, -, -, ne, -, -, -, -, si, -, -, -, -, -, e4, -, -, -, -, e9, -, -, -, -, -, b4, -, -, -, -, b9, -, -⟩ := hI
  have u1 : uR r i = ne + (ck - si) / 10 := by simp only [uR, e4, e9, hr1]; rw [vN_nI (by omega), vN_nI (by omega), vN_nI (by omega)]
  omega
theorem c_ahead (hL : LyS σ.2 a) (hS : RS σ a r cnt ck t sz nx) (hI : IS r cnt ck t sz nx) (hi : i < cnt) (hj : j < cnt) : f_X3_isAhead σ a (nI i) (nI j) = some (if ahB r i j = true then 1 else 0, σ) := by
  obtain ⟨hc, hck, -, -, -, -, hIM, -⟩ := hI
  have hi8 : i < 8 := by omega
  have hj8 : j < 8 := by omega
  obtain ⟨-, ⟨g4, g1⟩, -, -, -, hRM, -⟩ := hS
  unfold f_X3_isAhead
  rw [in_nI hi8 (by omega), ck_t, in_nI hj8 (by omega), ck_t, nI_clamp (by omega), nI_clamp (by omega), hL.1, (hL.2.2.2.1 i hi8).1, (hL.2.2.2.1 j hj8).1]
  rw [c_urg (hRM i hi) g4 g1 hck (hIM i hi), bd_s, c_urg (hRM j hj) g4 g1 hck (hIM j hj), bd_s]
  have u1 := uR_lt g1 hck (hIM i hi)
  have u2 := uR_lt g1 hck (hIM j hj)
  obtain ⟨-, -, -, -, -, -, -, -, -, h9, -⟩ := hRM i hi
  obtain ⟨-, -, -, -, -, -, -, -, -, k9, -⟩ := hRM j hj
  obtain ⟨-, -, -, -, -, -, -, -, -, si, -, -, -, -, -, -, -, -, -, -, e9, -, -, -, -, -, -, -, -, -, -, b9, -, -⟩ := hIM i hi
  obtain ⟨-, -, -, -, -, -, -, -, -, sj, -, -, -, -, -, -, -, -, -, -, f9, -, -, -, -, -, -, -, -, -, -, c9, -, -⟩ := hIM j hj
  rw [← h9, ← k9, e9, f9]
  have s1 : sR r i = si := by simp only [sR, e9]; rw [vN_nI (by omega)]
  have s2 : sR r j = sj := by simp only [sR, f9]; rw [vN_nI (by omega)]
  have hah : ahB r i j = true ↔ (uR r j < uR r i ∨ (uR r j = uR r i ∧ (si < sj ∨ (si = sj ∧ i < j)))) := by
    rw [ahB_iff]
    unfold ah
    rw [s1, s2]
  have q1 : nI (uR r i) = nI (uR r j) ↔ uR r i = uR r j := nI_eq u1 u2
  have q2 : nI (uR r i) ≤ nI (uR r j) ↔ uR r i ≤ uR r j := nI_leI u1 u2
  have q3 : nI si = nI sj ↔ si = sj := nI_eq (by omega) (by omega)
  have q4 : nI sj ≤ nI si ↔ sj ≤ si := nI_leI (by omega) (by omega)
  have q5 : nI j ≤ nI i ↔ j ≤ i := nI_leI (by omega) (by omega)
  by_cases a1 : uR r i = uR r j
  · rw [if_pos (q1.mpr a1)]
    by_cases a2 : si = sj
    · rw [if_pos (q3.mpr a2)]
      by_cases a3 : j ≤ i
      · rw [if_pos (q5.mpr a3), if_neg (by rw [hah]; omega)]
      · rw [if_neg (fun h => a3 (q5.mp h)), if_pos (by rw [hah]; omega)]
    · rw [if_neg (fun h => a2 (q3.mp h))]
      by_cases a3 : sj ≤ si
      · rw [if_pos (q4.mpr a3), if_neg (by rw [hah]; omega)]
      · rw [if_neg (fun h => a3 (q4.mp h)), if_pos (by rw [hah]; omega)]
  · rw [if_neg (fun h => a1 (q1.mp h))]
    by_cases a3 : uR r i ≤ uR r j
    · rw [if_pos (q2.mpr a3), if_neg (by rw [hah]; omega)]
    · rw [if_neg (fun h => a3 (q2.mp h)), if_pos (by rw [hah]; omega)]
theorem c_takenL (hL : LyS σ.2 a) (hS : RS σ a r cnt ck t sz nx) (hI : IS r cnt ck t sz nx) {k : Int32 → bz_W → Option (Int32 × bz_W)} : ∀ fuel j, j ≤ cnt → cnt - j < fuel → f_X3_takenCurrent_L4 a k fuel (tsum r j) (nI j) σ = k (tsum r cnt) σ := by
  obtain ⟨hc, hck, -, -, -, -, hIM, -⟩ := hI
  obtain ⟨⟨g0, -⟩, -, -, -, -, hRM, -⟩ := hS
  intro fuel
  induction fuel with
  | zero => intro j hj h; omega
  | succ f ih =>
    intro j hj h
    rw [f_X3_takenCurrent_L4, g0]
    by_cases hjn : j = cnt
    · subst hjn
      rw [if_pos (nI_le (Nat.le_refl _) (by omega))]
    · have hj8 : j < 8 := by omega
      have hjc : j < cnt := by omega
      rw [if_neg (nI_ge (by omega) (by omega)), in_nI hj8 (by omega), ck_t, nI_clamp (by omega), hL.1, (hL.2.2.2.1 j hj8).1]
      have next : ∀ v : Int32, v = curR r j → f_X3_takenCurrent_L4 a k f (tsum r j + v) (nI j + 1) σ = k (tsum r cnt) σ := by
        intro v hv
        rw [nI_1, hv]
        exact ih (j + 1) (by omega) (by omega)
      have h5 := (hRM j hjc).2.2.2.2.2.1
      rw [← h5]
      simp only [lt_d, c_peak (hRM j hjc), c_draw (hRM j hjc) (hIM j hjc), bd_s]
      by_cases h2 : r (8 + 20 * j + 5) = 2
      · rw [if_pos h2]
        exact next _ (by simp [curR, h2])
      · rw [if_neg h2]
        exact next _ (by simp [curR, h2])
theorem c_taken (hL : LyS σ.2 a) (hS : RS σ a r cnt ck t sz nx) (hI : IS r cnt ck t sz nx) : f_X3_takenCurrent σ a = some (tsum r cnt, σ) := by
  unfold f_X3_takenCurrent
  have := hI.1
  exact c_takenL hL hS hI 1100 0 (Nat.zero_le _) (by omega)
theorem c_against (hL : LyS σ.2 a) (hS : RS σ a r cnt ck t sz nx) (hI : IS r cnt ck t sz nx) (hi : i < cnt) : f_X3_reasonAgainst σ a (a + 2 + 2 * i) = some (agR r cnt i, σ) := by
  unfold f_X3_reasonAgainst agR
  have hR := hS.2.2.2.2.2.1 i hi
  have e1 := c_credit hR
  have e2 := c_peak hR
  have e3 := c_taken hL hS hI
  obtain ⟨-, -, -, -, -, -, -, h7, -, -, -, -, -, h6⟩ := hR
  rw [← h7, hS.2.2.1.1]
  simp only [e1, e2, e3, bd_s, h6]
  split
  · split
    · split <;> rfl
    · rfl
  · rfl
end CLS
