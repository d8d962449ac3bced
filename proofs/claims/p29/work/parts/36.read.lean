/-! entering a call: what the relation gives; the calls that only read -/
theorem io_cases (x lo hi : Int32) : ((∀ σ : bz_W, f_X6_isOutside σ x lo hi = some (0, σ)) ∧ (∀ τ : bz_W, f_X7_in τ x lo hi = some (1, τ)) ∧ ¬ x < lo ∧ x ≤ hi) ∨ ((∀ σ : bz_W, f_X6_isOutside σ x lo hi = some (1, σ)) ∧ ∀ τ : bz_W, f_X7_in τ x lo hi = some (0, τ)) := by
  by_cases h1 : x < lo
  · exact Or.inr ⟨fun σ => by unfold f_X6_isOutside; rw [if_pos h1], fun τ => by unfold f_X7_in; rw [if_pos h1]⟩
  · by_cases h2 : x ≤ hi
    · have h3 : ¬ hi < x := Int32.not_lt.mpr h2
      exact Or.inl ⟨fun σ => by unfold f_X6_isOutside; rw [if_neg h1, if_pos h2], fun τ => by unfold f_X7_in; rw [if_neg h1, if_neg h3], h1, h2⟩
    · have h3 : hi < x := Int32.not_le.mp h2
      exact Or.inr ⟨fun σ => by unfold f_X6_isOutside; rw [if_neg h1, if_neg h2], fun τ => by unfold f_X7_in; rw [if_neg h1, if_pos h3]⟩
theorem rng {x lo hi : Int32} (a b : Nat) (hlo : lo = nI a) (hhi : hi = nI b) (ha : a < 2 ^ 31) (hb : b < 2 ^ 31) (h1 : ¬ x < lo) (h2 : x ≤ hi) : ∃ n : Nat, a ≤ n ∧ n ≤ b ∧ x = nI n := by
  subst hlo hhi
  have e1 := nI_toInt ha
  have e2 := nI_toInt hb
  have g1 : ¬ x.toInt < (nI a).toInt := fun h => h1 (Int32.lt_iff_toInt_lt.mpr h)
  have g2 := Int32.le_iff_toInt_le.mp h2
  rw [e1] at g1
  rw [e2] at g2
  refine ⟨x.toInt.toNat, by omega, by omega, ?_⟩
  apply Int32.toInt_inj.mp
  rw [nI_toInt (by omega)]
  omega
theorem Rel.rd {z C T : Nat} {σ τ : bz_W} (h : Rel z C T σ τ) : ∃ cnt ck t sz nx, 0 < z ∧ (σ.2 z 0 = z + 1 ∧ σ.2 z 1 = z + 28 ∧ σ.2 z 2 = z + 138 ∧ σ.2 z 4 = z + 165 ∧ σ.2 z 5 = z + 167 ∧ σ.2 z 6 = z + 172) ∧ τ.2 (z + 173) 0 = z + 174 ∧ LyS σ.2 (z + 1) ∧ RS σ (z + 1) (τ.1 (z + 174)) cnt ck t sz nx ∧ IS (τ.1 (z + 174)) cnt ck t sz nx ∧ σ.1 z 7 = τ.1 (z + 173) 5 := by
  obtain ⟨hs, n, -, ⟨hz, ⟨a0, a1, a2, a3, a4, a5, -, -⟩, -, l1, -⟩, hM, ⟨cnt, ck, t, sz, nx, hS, hI, -, -⟩, -, hr, -⟩ := h
  exact ⟨cnt, ck, t, sz, nx, hz, ⟨a0, a1, a2, a3, a4, a5⟩, hM.1, l1, hS, hI, hr⟩
theorem Rel.mono {z C T C' T' : Nat} {σ τ : bz_W} (h : Rel z C T σ τ) (hC : C ≤ C') (hT : T ≤ T') : Rel z C' T' σ τ := by
  obtain ⟨hs, n, h1, h2, h3, h4, h5, h6, ⟨k1, k2, k3, k4⟩, h7, h8⟩ := h
  refine ⟨hs, n, h1, h2, h3, h4.mono hC hT, h5, h6, ⟨k1, k2, k3, fun j hj => (k4 j hj).mono hC hT⟩, ?_, h8⟩
  rcases h7 with q | ⟨q1, q2, q3⟩
  · exact Or.inl q
  · exact Or.inr ⟨q1, q2, q3.mono hC hT⟩
theorem sm_idle {z k : Nat} {σ τ : bz_W} (h : bz_Rel z k σ τ) : bz_Rel z (k + 1) σ τ := Rel.mono h (by omega) (by omega)
theorem sm_read {z k : Nat} {σ τ : bz_W} (h : bz_Rel z k σ τ) {f : Option (Int32 × bz_W)} {g : bz_W → Option (Int32 × bz_W)} (hk : ∃ v, f = some (v, σ) ∧ g (bz_wb τ (z + 174) (τ.1 (z + 174))) = some (v, bz_wb τ (z + 174) (τ.1 (z + 174)))) : ∃ v σ1 τ1, f = some (v, σ1) ∧ g τ = some (v, τ1) ∧ bz_Rel z (k + 1) σ1 τ1 ∧ σ1 = σ := by
  obtain ⟨v, h1, h2⟩ := hk
  rw [wb_id] at h2
  exact ⟨v, σ, τ, h1, h2, sm_idle h, rfl⟩
theorem q_ne (z i : Nat) : ¬ z + 1 + 2 + 2 * i = 0 := by omega
theorem c_givenOff {σ : bz_W} {x t fan : Int32} (hf : fan = 0 ∨ fan = 1) : f_X6_givenOff σ x t fan = some (x * rateR t fan / 1000, σ) := by
  unfold f_X6_givenOff rateR
  simp only [lt_d]
  rcases hf with rfl | rfl
  · split <;> rfl
  · split <;> rfl
theorem rampR_N {p m j : Nat} (hp : p ≤ 600) (hm : 1 ≤ m) (hm2 : m ≤ 1000) (hj : j < m) : ∃ d : Nat, rampR (nI p) (nI m) (nI j) = nI d ∧ d ≤ p := by
  have hmul : p * (j + 1) ≤ p * m := Nat.mul_le_mul_left p hj
  have hmul2 : p * m ≤ 600 * 1000 := Nat.mul_le_mul hp hm2
  refine ⟨(p * (j + 1) + m - 1) / m, ?_, ?_⟩
  · unfold rampR
    rw [nI_1, pk_mul, nI_add, show (1 : Int32) = nI 1 from rfl, pk_sub2 (by omega), nI_div (by omega) (by omega) (by omega)]
  · have h1 : p * (j + 1) + m - 1 < (p + 1) * m := by
      rw [Nat.add_mul]
      omega
    have := (Nat.div_lt_iff_lt_mul (show 0 < m by omega)).mpr h1
    omega
theorem hsum_N {p m : Nat} (hp : p ≤ 600) (hm : 1 ≤ m) (hm2 : m ≤ 1000) : ∀ n, n ≤ m → ∃ s : Nat, hsum (nI p) (nI m) n = nI s ∧ s ≤ 36000 * n
  | 0, _ => ⟨0, rfl, by omega⟩
  | n + 1, h => by
    obtain ⟨s, h1, h2⟩ := hsum_N hp hm hm2 n (by omega)
    obtain ⟨d, d1, d2⟩ := rampR_N hp hm hm2 (show n < m by omega)
    have hdd : d * d ≤ 600 * 600 := Nat.mul_le_mul (by omega) (by omega)
    refine ⟨s + d * d / 10, ?_, by omega⟩
    unfold hsum
    rw [h1, d1, pk_mul, show (10 : Int32) = nI 10 from rfl, nI_div (by omega) (by omega) (by omega), nI_add]
theorem peak_N {r : Nat → Int32} {ck i : Nat} (hI : IM r ck i) : ∃ p : Nat, peakR r i = nI p ∧ p ≤ 600 := by
  obtain ⟨ra, -, fa, -, -, -, -, -, -, -, -, e0, -, e2, -, -, -, -, -, -, -, -, b0, -, b2, -⟩ := hI
  refine ⟨ra * fa, ?_, Nat.mul_le_mul b0.2 b2.2⟩
  unfold peakR
  rw [e0, e2, pk_mul]
theorem need_N {r : Nat → Int32} {ck i : Nat} (hI : IM r ck i) : ∃ p : Nat, needR r i = nI p ∧ p ≤ 1080000 := by
  obtain ⟨p, p1, p2⟩ := peak_N hI
  obtain ⟨-, rm, -, -, -, -, -, -, -, -, -, -, e1, -, -, -, -, -, -, -, -, -, -, b1, -⟩ := hI
  obtain ⟨s, s1, s2⟩ := hsum_N p2 (show 1 ≤ rm by omega) (by omega) rm (Nat.le_refl _)
  refine ⟨s, ?_, by omega⟩
  unfold needR
  rw [p1, e1, vN_nI (by omega), s1]
theorem rate_N {t fan : Int32} (hf : fan = 0 ∨ fan = 1) : ∃ p : Nat, rateR t fan = nI p ∧ p ≤ 70 := by
  unfold rateR
  rcases hf with rfl | rfl
  · by_cases h : t = 0
    · exact ⟨20, by rw [if_pos h]; rfl, by omega⟩
    · exact ⟨40, by rw [if_neg h]; rfl, by omega⟩
  · by_cases h : t = 0
    · exact ⟨50, by rw [if_pos h]; rfl, by omega⟩
    · exact ⟨70, by rw [if_neg h]; rfl, by omega⟩
def fsum (f : Nat → Int32) : Nat → Int32
  | 0 => 0
  | n + 1 => fsum f n + f n
section RD
variable {σ τ : bz_W} {z k a M N i cnt ck t sz nx : Nat} {r : Nat → Int32}
-- loops of count
theorem c_mode (hL : LyS σ.2 a) (hS : RS σ a r cnt ck t sz nx) (hI : IS r cnt ck t sz nx) (x : Int32) : f_X3_motorsInMode σ a x = some (fsum (fun i => if r (8 + 20 * i + 5) = x then 1 else 0) cnt, σ) := by
  obtain ⟨hc, -⟩ := hI
  obtain ⟨⟨g0, -⟩, -, -, -, -, hRM, -⟩ := hS
  unfold f_X3_motorsInMode
  have key : ∀ fuel j, j ≤ cnt → cnt - j < fuel → f_X3_motorsInMode_L4 a x (fun (x11 : Int32) (σ12 : bz_W) => some (x11, σ12)) fuel (fsum (fun i => if r (8 + 20 * i + 5) = x then 1 else 0) j) (nI j) σ = some (fsum (fun i => if r (8 + 20 * i + 5) = x then 1 else 0) cnt, σ) := by
    intro fuel
    induction fuel with
    | zero => intro j hj h; omega
    | succ f ih =>
      intro j hj h
      rw [f_X3_motorsInMode_L4, g0]
      by_cases hjn : j = cnt
      · subst hjn
        rw [if_pos (nI_le (Nat.le_refl _) (by omega))]
      · have hjc : j < cnt := by omega
        rw [if_neg (nI_ge (by omega) (by omega)), in_nI (by omega) (by omega), ck_t, nI_clamp (by omega), hL.1, (hL.2.2.2.1 j (by omega)).1, ← (hRM j hjc).2.2.2.2.2.1]
        simp only [lt_d, nI_1]
        have := ih (j + 1) (by omega) (by omega)
        rw [fsum] at this
        by_cases h5 : r (8 + 20 * j + 5) = x
        · rw [if_pos h5] at this ⊢
          exact this
        · rw [if_neg h5] at this ⊢
          rw [Int32.add_zero] at this
          exact this
  exact key 1100 0 (Nat.zero_le _) (by omega)
theorem m_mode (hN : τ.2 M 0 = N) (h0 : r 0 = nI cnt) (hc : cnt ≤ 8) (x : Int32) : f_X7_inMode (bz_wb τ N r) M x = some (fsum (fun i => if r (8 + 20 * i + 5) = x then 1 else 0) cnt, bz_wb τ N r) := by
  unfold f_X7_inMode
  have key : ∀ fuel j, j ≤ cnt → cnt - j < fuel → f_X7_inMode_L4 M x (fun (x11 : Int32) (σ12 : bz_W) => some (x11, σ12)) fuel (fsum (fun i => if r (8 + 20 * i + 5) = x then 1 else 0) j) (nI j) (bz_wb τ N r) = some (fsum (fun i => if r (8 + 20 * i + 5) = x then 1 else 0) cnt, bz_wb τ N r) := by
    intro fuel
    induction fuel with
    | zero => intro j hj h; omega
    | succ f ih =>
      intro j hj h
      rw [f_X7_inMode_L4, wb_2, hN, wb_s, h0]
      by_cases hjn : j = cnt
      · subst hjn
        rw [if_pos (nI_le (Nat.le_refl _) (by omega))]
      · have hjc : j < cnt := by omega
        rw [if_neg (nI_ge (by omega) (by omega)), m_of5 hN (by omega), bd_s]
        simp only [lt_d, nI_1]
        have := ih (j + 1) (by omega) (by omega)
        rw [fsum] at this
        by_cases h5 : r (8 + 20 * j + 5) = x
        · rw [if_pos h5] at this ⊢
          exact this
        · rw [if_neg h5] at this ⊢
          exact this
  exact key 1100 0 (Nat.zero_le _) (by omega)
theorem c_sumA (hL : LyS σ.2 a) (hS : RS σ a r cnt ck t sz nx) (hI : IS r cnt ck t sz nx) {w : Nat} (hw : w < 7) : f_X3_sumOfAccount σ a (nI w) = some (fsum (fun i => r (8 + 20 * i + 12 + w)) cnt, σ) := by
  obtain ⟨hc, -⟩ := hI
  obtain ⟨⟨g0, -⟩, -, -, -, -, hRM, -⟩ := hS
  unfold f_X3_sumOfAccount
  have key : ∀ fuel j, j ≤ cnt → cnt - j < fuel → f_X3_sumOfAccount_L4 a (nI w) (fun (x11 : Int32) (σ12 : bz_W) => some (x11, σ12)) fuel (fsum (fun i => r (8 + 20 * i + 12 + w)) j) (nI j) σ = some (fsum (fun i => r (8 + 20 * i + 12 + w)) cnt, σ) := by
    intro fuel
    induction fuel with
    | zero => intro j hj h; omega
    | succ f ih =>
      intro j hj h
      rw [f_X3_sumOfAccount_L4, g0]
      by_cases hjn : j = cnt
      · subst hjn
        rw [if_pos (nI_le (Nat.le_refl _) (by omega))]
      · have hjc : j < cnt := by omega
        rw [if_neg (nI_ge (by omega) (by omega)), in_nI (by omega) (by omega), ck_t, in_nI hw (by omega), ck_t, nI_clamp (by omega), nI_clamp (by omega), hL.1, (hL.2.2.2.1 j (by omega)).1, (hL.2.2.2.1 j (by omega)).2, show a + 3 + 2 * j = a + 2 + 2 * j + 1 by omega, ← (hRM j hjc).2.2.2.2.2.2.2.2.2.2.2.2.1 w hw]
        simp only [lt_d, nI_1]
        exact ih (j + 1) (by omega) (by omega)
  exact key 1100 0 (Nat.zero_le _) (by omega)
theorem c_sumH (hL : LyS σ.2 a) (hS : RS σ a r cnt ck t sz nx) (hI : IS r cnt ck t sz nx) : f_X3_sumOfHeat σ a = some (fsum (fun i => r (8 + 20 * i + 6)) cnt, σ) := by
  obtain ⟨hc, -⟩ := hI
  obtain ⟨⟨g0, -⟩, -, -, -, -, hRM, -⟩ := hS
  unfold f_X3_sumOfHeat
  have key : ∀ fuel j, j ≤ cnt → cnt - j < fuel → f_X3_sumOfHeat_L4 a (fun (x11 : Int32) (σ12 : bz_W) => some (x11, σ12)) fuel (fsum (fun i => r (8 + 20 * i + 6)) j) (nI j) σ = some (fsum (fun i => r (8 + 20 * i + 6)) cnt, σ) := by
    intro fuel
    induction fuel with
    | zero => intro j hj h; omega
    | succ f ih =>
      intro j hj h
      rw [f_X3_sumOfHeat_L4, g0]
      by_cases hjn : j = cnt
      · subst hjn
        rw [if_pos (nI_le (Nat.le_refl _) (by omega))]
      · have hjc : j < cnt := by omega
        rw [if_neg (nI_ge (by omega) (by omega)), in_nI (by omega) (by omega), ck_t, nI_clamp (by omega), hL.1, (hL.2.2.2.1 j (by omega)).1, ← (hRM j hjc).2.2.2.2.2.2.1]
        simp only [lt_d, nI_1]
        exact ih (j + 1) (by omega) (by omega)
  exact key 1100 0 (Nat.zero_le _) (by omega)
theorem c_sumD (hL : LyS σ.2 a) (hS : RS σ a r cnt ck t sz nx) (hI : IS r cnt ck t sz nx) : f_X3_sumOfDraws σ a = some (fsum (drawR r) cnt, σ) := by
  obtain ⟨hc, -, -, -, -, -, hIM, -⟩ := hI
  obtain ⟨⟨g0, -⟩, -, -, -, -, hRM, -⟩ := hS
  unfold f_X3_sumOfDraws
  have key : ∀ fuel j, j ≤ cnt → cnt - j < fuel → f_X3_sumOfDraws_L4 a (fun (x11 : Int32) (σ12 : bz_W) => some (x11, σ12)) fuel (fsum (drawR r) j) (nI j) σ = some (fsum (drawR r) cnt, σ) := by
    intro fuel
    induction fuel with
    | zero => intro j hj h; omega
    | succ f ih =>
      intro j hj h
      rw [f_X3_sumOfDraws_L4, g0]
      by_cases hjn : j = cnt
      · subst hjn
        rw [if_pos (nI_le (Nat.le_refl _) (by omega))]
      · have hjc : j < cnt := by omega
        rw [if_neg (nI_ge (by omega) (by omega)), in_nI (by omega) (by omega), ck_t, nI_clamp (by omega), hL.1, (hL.2.2.2.1 j (by omega)).1, c_draw (hRM j hjc) (hIM j hjc), bd_s]
        simp only [lt_d, nI_1]
        exact ih (j + 1) (by omega) (by omega)
  exact key 1100 0 (Nat.zero_le _) (by omega)
theorem m_sumOf (hN : τ.2 M 0 = N) (h0 : r 0 = nI cnt) (hc : cnt ≤ 8) {w : Nat} (hw : w < 20) : f_X7_sumOf (bz_wb τ N r) M (nI w) = some (fsum (fun i => r (8 + 20 * i + w)) cnt, bz_wb τ N r) := by
  unfold f_X7_sumOf
  have key : ∀ fuel j, j ≤ cnt → cnt - j < fuel → f_X7_sumOf_L4 M (nI w) (fun (x11 : Int32) (σ12 : bz_W) => some (x11, σ12)) fuel (fsum (fun i => r (8 + 20 * i + w)) j) (nI j) (bz_wb τ N r) = some (fsum (fun i => r (8 + 20 * i + w)) cnt, bz_wb τ N r) := by
    intro fuel
    induction fuel with
    | zero => intro j hj h; omega
    | succ f ih =>
      intro j hj h
      rw [f_X7_sumOf_L4, wb_2, hN, wb_s, h0]
      by_cases hjn : j = cnt
      · subst hjn
        rw [if_pos (nI_le (Nat.le_refl _) (by omega))]
      · have hjc : j < cnt := by omega
        rw [if_neg (nI_ge (by omega) (by omega)), m_of hN (by omega) w hw rfl, bd_s]
        simp only [lt_d, nI_1]
        exact ih (j + 1) (by omega) (by omega)
  exact key 1100 0 (Nat.zero_le _) (by omega)
theorem m_allDraw (hN : τ.2 M 0 = N) (h0 : r 0 = nI cnt) (hc : cnt ≤ 8) (hI : ∀ x, x < cnt → IM r ck x) : f_X7_allDraw (bz_wb τ N r) M = some (fsum (drawR r) cnt, bz_wb τ N r) := by
  unfold f_X7_allDraw
  have key : ∀ fuel j, j ≤ cnt → cnt - j < fuel → f_X7_allDraw_L4 M (fun (x11 : Int32) (σ12 : bz_W) => some (x11, σ12)) fuel (fsum (drawR r) j) (nI j) (bz_wb τ N r) = some (fsum (drawR r) cnt, bz_wb τ N r) := by
    intro fuel
    induction fuel with
    | zero => intro j hj h; omega
    | succ f ih =>
      intro j hj h
      rw [f_X7_allDraw_L4, wb_2, hN, wb_s, h0]
      by_cases hjn : j = cnt
      · subst hjn
        rw [if_pos (nI_le (Nat.le_refl _) (by omega))]
      · have hjc : j < cnt := by omega
        rw [if_neg (nI_ge (by omega) (by omega)), m_draws hN (by omega) (hI j hjc).ramp0, bd_s]
        simp only [lt_d, nI_1]
        exact ih (j + 1) (by omega) (by omega)
  exact key 1100 0 (Nat.zero_le _) (by omega)
end RD
theorem sm_startHeat {z k : Nat} {σ τ : bz_W} (h : bz_Rel z k σ τ) (hk : k < 512) (x1 : Int32) : ∃ v σ1 τ1, f_X6_startHeat σ z x1 = some (v, σ1) ∧ f_X7_startHeat τ (z + 173) x1 = some (v, τ1) ∧ bz_Rel z (k + 1) σ1 τ1 ∧ σ1 = σ := by
  refine sm_read h (g := fun τ => f_X7_startHeat τ (z + 173) x1) ?_
  obtain ⟨cnt, ck, t, sz, nx, hz, ⟨a0, -⟩, hN, hL, hS, hI, -⟩ := Rel.rd h
  have hc := hI.1
  unfold f_X6_startHeat f_X7_startHeat
  rw [a0]
  rcases pk_ix x1 (n := cnt) (by omega) with h1 | h1 | ⟨i, hi, rfl⟩
  · rw [c_findN hc hS.1.1 (Or.inl h1), m_noN hN hc hS.1.2 (Or.inl h1)]
    exact ⟨_, rfl, rfl⟩
  · rw [c_findN hc hS.1.1 (Or.inr h1), m_noN hN hc hS.1.2 (Or.inr h1)]
    exact ⟨_, rfl, rfl⟩
  · rw [c_findY hL hc hS.1.1 hi, m_noY hN hc hS.1.2 hi, bd_s, bd_s, if_neg (q_ne z i), if_pos rfl, m_need hN (by omega) (hI.2.2.2.2.2.2.1 i hi), (hS.2.2.2.2.2.1 i hi).2.2.2.2.2.2.2.2.2.2.2.2.2]
    exact ⟨_, rfl, rfl⟩
theorem sm_account {z k : Nat} {σ τ : bz_W} (h : bz_Rel z k σ τ) (hk : k < 512) (x1 x2 : Int32) : ∃ v σ1 τ1, f_X6_account σ z x1 x2 = some (v, σ1) ∧ f_X7_account τ (z + 173) x1 x2 = some (v, τ1) ∧ bz_Rel z (k + 1) σ1 τ1 ∧ σ1 = σ := by
  refine sm_read h (g := fun τ => f_X7_account τ (z + 173) x1 x2) ?_
  obtain ⟨cnt, ck, t, sz, nx, hz, ⟨a0, -⟩, hN, hL, hS, hI, -⟩ := Rel.rd h
  have hc := hI.1
  unfold f_X6_account f_X7_account
  rw [a0]
  rcases pk_ix x1 (n := cnt) (by omega) with h1 | h1 | ⟨i, hi, rfl⟩
  · rw [c_findN hc hS.1.1 (Or.inl h1), m_noN hN hc hS.1.2 (Or.inl h1)]
    exact ⟨_, rfl, rfl⟩
  · rw [c_findN hc hS.1.1 (Or.inr h1), m_noN hN hc hS.1.2 (Or.inr h1)]
    exact ⟨_, rfl, rfl⟩
  · rw [c_findY hL hc hS.1.1 hi, m_noY hN hc hS.1.2 hi, bd_s, bd_s, if_neg (q_ne z i), if_pos rfl]
    rcases io_cases x2 0 6 with ⟨c1, c2, c3, c4⟩ | ⟨c1, c2⟩
    · obtain ⟨w, -, hw, rfl⟩ := rng 0 6 rfl rfl (by omega) (by omega) c3 c4
      rw [c1, c2, bd_s, bd_s, if_pos rfl, if_neg (by decide), in_nI (by omega) (by omega), ck_t, nI_clamp (by omega), (hL.2.2.2.1 i (by omega)).2, m_of hN (by omega) (12 + w) (by omega) (x := 12 + nI w) (nI_add 12 w), bd_s]
      have := (hS.2.2.2.2.2.1 i hi).2.2.2.2.2.2.2.2.2.2.2.2.1 w (by omega)
      rw [show z + 1 + 3 + 2 * i = z + 1 + 2 + 2 * i + 1 by omega, ← this, Nat.add_assoc (8 + 20 * i)]
      exact ⟨_, rfl, rfl⟩
    · rw [c1, c2]
      exact ⟨_, rfl, rfl⟩
theorem sm_whyNot {z k : Nat} {σ τ : bz_W} (h : bz_Rel z k σ τ) (hk : k < 512) (x1 : Int32) : ∃ v σ1 τ1, f_X6_whyNot σ z x1 = some (v, σ1) ∧ f_X7_whyNot τ (z + 173) x1 = some (v, τ1) ∧ bz_Rel z (k + 1) σ1 τ1 ∧ σ1 = σ := by
  refine sm_read h (g := fun τ => f_X7_whyNot τ (z + 173) x1) ?_
  obtain ⟨cnt, ck, t, sz, nx, hz, ⟨a0, -⟩, hN, hL, hS, hI, -⟩ := Rel.rd h
  have hc := hI.1
  unfold f_X6_whyNot f_X7_whyNot
  rw [a0]
  rcases pk_ix x1 (n := cnt) (by omega) with h1 | h1 | ⟨i, hi, rfl⟩
  · rw [c_findN hc hS.1.1 (Or.inl h1), m_noN hN hc hS.1.2 (Or.inl h1)]
    exact ⟨_, rfl, rfl⟩
  · rw [c_findN hc hS.1.1 (Or.inr h1), m_noN hN hc hS.1.2 (Or.inr h1)]
    exact ⟨_, rfl, rfl⟩
  · rw [c_findY hL hc hS.1.1 hi, m_noY hN hc hS.1.2 hi, bd_s, bd_s, if_neg (q_ne z i), if_pos rfl, m_waits hN (by omega), bd_s, ← (hS.2.2.2.2.2.1 i hi).2.2.2.2.2.1, a0]
    by_cases h5 : τ.1 (z + 174) (8 + 20 * i + 5) = 1
    · rw [if_pos h5, if_pos h5, if_neg (by decide), c_against hL hS hI hi, m_against hN hS.1.2 hc hI.2.2.2.2.2.2.1 hi]
      exact ⟨_, rfl, rfl⟩
    · rw [if_neg h5, if_neg h5]
      exact ⟨_, rfl, rfl⟩
