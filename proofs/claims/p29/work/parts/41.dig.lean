/-! the law's small helpers over a bay: low, digest, peak, heatOf, why, urgency, passedOver -/
def lowN (x : Int32) (n : Nat) : Nat := vN (x &&& 2147483647) % n
theorem and_nn (x : Int32) : 0 ≤ x &&& 2147483647 := by
  rw [Int32.le_iff_toInt_le]
  have e3 : (x &&& 2147483647).toBitVec.msb = false := by
    rw [Int32.toBitVec_and, BitVec.msb_and]
    have e : (2147483647 : Int32).toBitVec.msb = false := by decide
    rw [e, Bool.and_false]
  rw [BitVec.msb_eq_toInt] at e3
  exact Int.not_lt.mp (of_decide_eq_false e3)
theorem nn_nI {x : Int32} (h : 0 ≤ x) : ∃ n : Nat, n < 2 ^ 31 ∧ x = nI n := by
  obtain ⟨n, hn, e⟩ := nI_of (Int32.not_lt.mpr h)
  exact ⟨n, by omega, e⟩
theorem l_low (σ : bz_W) (x : Int32) {n : Nat} (h0 : 0 < n) (hn : n < 2 ^ 31) {y : Int32} (hy : y = nI n) : f_L_low σ x y = some (nI (lowN x n), σ) := by
  subst hy
  obtain ⟨m, hm, e⟩ := nn_nI (and_nn x)
  unfold f_L_low lowN
  have e0 : (!(nI n == 0)) = true := by
    have : ¬ nI n = nI 0 := fun h => by have := (nI_eq hn (by omega)).mp h; omega
    have : ¬ nI n = 0 := this
    simpa using this
  rw [e0, ck_n, e, pk_rem hm h0 hn, vN_nI hm]
theorem lowN_lt (x : Int32) {n : Nat} (h0 : 0 < n) : lowN x n < n := Nat.mod_lt _ h0
def d6 (f : Nat → Int32) : Nat → Int64
  | 0 => 47
  | j + 1 => 31 * d6 f j + (if j = 8 then (0 : Int32) else f j).toInt64
def d55 (f : Nat → Int32) (a : Int64) : Nat → Int64
  | 0 => a
  | j + 1 => 31 * d55 f a j + (f j).toInt64
def d43 (r : Nat → Int32) (a : Int64) : Nat → Int64
  | 0 => a
  | i + 1 => d55 (fun w => r (8 + 20 * i + (12 + w))) (d55 (motV r i) (d43 r a i) 13) 7
def d122 (r : Nat → Int32) (a : Int64) : Nat → Int64
  | 0 => a
  | e + 1 => 31 * d122 r a e + 100 * (evV r e 0).toInt64 + 10 * (evV r e 1).toInt64 + (evV r e 2).toInt64
def digV (r : Nat → Int32) (cnt : Nat) : Int64 := d122 r (d43 r (d6 (cntV r cnt 0 0) 16) cnt) 10
theorem d6_congr {f g : Nat → Int32} (h : ∀ j, j < 16 → j ≠ 8 → f j = g j) : ∀ n, n ≤ 16 → d6 f n = d6 g n
  | 0, _ => rfl
  | n + 1, hn => by
    unfold d6
    rw [d6_congr h n (by omega)]
    by_cases h8 : n = 8
    · rw [if_pos h8, if_pos h8]
    · rw [if_neg h8, if_neg h8, h n (by omega) h8]
theorem d55_congr {f g : Nat → Int32} {a : Int64} {m : Nat} (h : ∀ j, j < m → f j = g j) : ∀ n, n ≤ m → d55 f a n = d55 g a n
  | 0, _ => rfl
  | n + 1, hn => by
    unfold d55
    rw [d55_congr h n (by omega), h n (by omega)]
section DG
variable {z k cnt ck t : Nat} {σ τ : bz_W}
theorem dg_L6 (h : WR z k cnt ck t σ τ) {K : Int64 → bz_W → Option (Int64 × bz_W)} : ∀ fuel j, j ≤ 16 → 16 - j < fuel → f_L_digest_L6 z K fuel (d6 (cntV (τ.1 (z + 174)) cnt (τ.1 (z + 173) 5) (τ.1 (z + 173) 2)) j) (nI j) σ = K (d6 (cntV (τ.1 (z + 174)) cnt (τ.1 (z + 173) 5) (τ.1 (z + 173) 2)) 16) σ := by
  intro fuel
  induction fuel with
  | zero => intro j hj h; omega
  | succ f ih =>
    intro j hj hf
    rw [f_L_digest_L6]
    by_cases hjn : j = 16
    · subst hjn
      rw [if_pos (show (16 : Int32) ≤ nI 16 from nI_le (Nat.le_refl _) (by omega))]
    · rw [if_neg (show ¬ (16 : Int32) ≤ nI j from nI_ge (b := 16) (by omega) (by omega)), lt_n]
      by_cases h8 : j = 8
      · subst h8
        rw [if_pos (show nI 8 = (8 : Int32) from rfl)]
        dsimp only
        rw [lt_n, lt_n, nI_1]
        exact ih 9 (by omega) (by omega)
      · have e8 : ¬ nI j = (8 : Int32) := fun e => h8 ((nI_eq (b := 8) (by omega) (by omega)).mp e)
        rw [if_neg e8, rd_count h j (by omega) rfl, bd_n]
        dsimp only
        rw [lt_n, lt_n, nI_1]
        have e := ih (j + 1) (by omega) (by omega)
        rw [show d6 (cntV (τ.1 (z + 174)) cnt (τ.1 (z + 173) 5) (τ.1 (z + 173) 2)) (j + 1) = 31 * d6 (cntV (τ.1 (z + 174)) cnt (τ.1 (z + 173) 5) (τ.1 (z + 173) 2)) j + (cntV (τ.1 (z + 174)) cnt (τ.1 (z + 173) 5) (τ.1 (z + 173) 2) j).toInt64 by rw [d6, if_neg h8]] at e
        exact e
theorem dg_L55 (h : WR z k cnt ck t σ τ) {i : Nat} (hi : i < cnt) (a : Int64) {K : Int64 → bz_W → Option (Int64 × bz_W)} : ∀ fuel j, j ≤ 13 → 13 - j < fuel → f_L_digest_L55 z (nI i) K fuel (d55 (motV (τ.1 (z + 174)) i) a j) (nI j) σ = K (d55 (motV (τ.1 (z + 174)) i) a 13) σ := by
  intro fuel
  induction fuel with
  | zero => intro j hj h; omega
  | succ f ih =>
    intro j hj hf
    rw [f_L_digest_L55]
    by_cases hjn : j = 13
    · subst hjn
      rw [if_pos (show (13 : Int32) ≤ nI 13 from nI_le (Nat.le_refl _) (by omega))]
    · rw [if_neg (show ¬ (13 : Int32) ≤ nI j from nI_ge (b := 13) (by omega) (by omega)), rd_motor h hi j (by omega) rfl, bd_n, lt_n, lt_n, nI_1]
      exact ih (j + 1) (by omega) (by omega)
theorem dg_L86 (h : WR z k cnt ck t σ τ) {i : Nat} (hi : i < cnt) (a : Int64) {K : Int64 → bz_W → Option (Int64 × bz_W)} : ∀ fuel j, j ≤ 7 → 7 - j < fuel → f_L_digest_L86 z (nI i) K fuel (d55 (fun w => τ.1 (z + 174) (8 + 20 * i + (12 + w))) a j) (nI j) σ = K (d55 (fun w => τ.1 (z + 174) (8 + 20 * i + (12 + w))) a 7) σ := by
  intro fuel
  induction fuel with
  | zero => intro j hj h; omega
  | succ f ih =>
    intro j hj hf
    rw [f_L_digest_L86]
    by_cases hjn : j = 7
    · subst hjn
      rw [if_pos (show (7 : Int32) ≤ nI 7 from nI_le (Nat.le_refl _) (by omega))]
    · rw [if_neg (show ¬ (7 : Int32) ≤ nI j from nI_ge (b := 7) (by omega) (by omega)), rd_account h hi j (by omega) rfl, bd_n, lt_n, lt_n, nI_1]
      exact ih (j + 1) (by omega) (by omega)
theorem dg_L43 (h : WR z k cnt ck t σ τ) (a : Int64) {K : Int64 → bz_W → Option (Int64 × bz_W)} : ∀ fuel j, j ≤ cnt → cnt - j < fuel → f_L_digest_L43 z K fuel (d43 (τ.1 (z + 174)) a j) (nI j) σ = K (d43 (τ.1 (z + 174)) a cnt) σ := by
  have hc := h.2.2.2.2.2.1
  intro fuel
  induction fuel with
  | zero => intro j hj h; omega
  | succ f ih =>
    intro j hj hf
    rw [f_L_digest_L43, rd_count0 h, bd_n]
    by_cases hjn : j = cnt
    · subst hjn
      rw [if_pos (nI_le (Nat.le_refl _) (by omega))]
    · have hjc : j < cnt := by omega
      rw [if_neg (nI_ge (by omega) (by omega))]
      have e1 := dg_L55 h hjc (d43 (τ.1 (z + 174)) a j) (K := fun (x21 : Int64) (σ22 : bz_W) => f_L_digest_L86 z (nI j) (fun (x28 : Int64) (σ29 : bz_W) => lt_ (nI j + 1) fun x30 => f_L_digest_L43 z K f x28 x30 σ29) 1100 x21 0 σ22) 1100 0 (by omega) (by omega)
      refine e1.trans ?_
      have e2 := dg_L86 h hjc (d55 (motV (τ.1 (z + 174)) j) (d43 (τ.1 (z + 174)) a j) 13) (K := fun (x28 : Int64) (σ29 : bz_W) => lt_ (nI j + 1) fun x30 => f_L_digest_L43 z K f x28 x30 σ29) 1100 0 (by omega) (by omega)
      refine e2.trans ?_
      rw [lt_n, nI_1]
      exact ih (j + 1) (by omega) (by omega)
theorem dg_L122 (h : WR z k cnt ck t σ τ) (a : Int64) {K : Int64 → bz_W → Option (Int64 × bz_W)} : ∀ fuel j, j ≤ 10 → 10 - j < fuel → f_L_digest_L122 z K fuel (d122 (τ.1 (z + 174)) a j) (nI j) σ = K (d122 (τ.1 (z + 174)) a 10) σ := by
  intro fuel
  induction fuel with
  | zero => intro j hj h; omega
  | succ f ih =>
    intro j hj hf
    rw [f_L_digest_L122]
    by_cases hjn : j = 10
    · subst hjn
      rw [if_pos (show (10 : Int32) ≤ nI 10 from nI_le (Nat.le_refl _) (by omega))]
    · rw [if_neg (show ¬ (10 : Int32) ≤ nI j from nI_ge (b := 10) (by omega) (by omega)), rd_event h (x := 0) (by omega) 0 (by omega) rfl, bd_n, rd_event h (x := 1) (by omega) 1 (by omega) rfl, bd_n, rd_event h (x := 2) (by omega) 2 (by omega) rfl, bd_n, lt_n, lt_n, nI_1]
      exact ih (j + 1) (by omega) (by omega)
theorem l_dig (h : WR z k cnt ck t σ τ) : f_L_digest σ z = some (digV (τ.1 (z + 174)) cnt, σ) := by
  unfold f_L_digest
  rw [lt_n]
  have e1 := dg_L6 h (K := fun (x11 : Int64) (σ12 : bz_W) => f_L_digest_L43 z (fun (x31 : Int64) (σ32 : bz_W) => f_L_digest_L122 z (fun (x42 : Int64) (σ43 : bz_W) => some (x42, σ43)) 1100 x31 0 σ32) 1100 x11 0 σ12) 1100 0 (by omega) (by omega)
  refine e1.trans ?_
  have e2 := dg_L43 h (d6 (cntV (τ.1 (z + 174)) cnt (τ.1 (z + 173) 5) (τ.1 (z + 173) 2)) 16) (K := fun (x31 : Int64) (σ32 : bz_W) => f_L_digest_L122 z (fun (x42 : Int64) (σ43 : bz_W) => some (x42, σ43)) 1100 x31 0 σ32) 1100 0 (by omega) (by have := h.2.2.2.2.2.1; omega)
  refine e2.trans ?_
  have e3 := dg_L122 h (d43 (τ.1 (z + 174)) (d6 (cntV (τ.1 (z + 174)) cnt (τ.1 (z + 173) 5) (τ.1 (z + 173) 2)) 16) cnt) (K := fun (x42 : Int64) (σ43 : bz_W) => some (x42, σ43)) 1100 0 (by omega) (by omega)
  refine e3.trans ?_
  rw [digV, d6_congr (g := cntV (τ.1 (z + 174)) cnt 0 0) (fun j hj h8 => by
    unfold cntV
    rw [if_neg h8, if_neg h8, if_neg (show ¬ j = 16 by omega), if_neg (show ¬ j = 16 by omega)]) 16 (by omega)]
theorem l_peak (h : WR z k cnt ck t σ τ) {i : Nat} (hi : i < cnt) : f_L_peak σ z (nI i) = some (peakR (τ.1 (z + 174)) i, σ) := by
  unfold f_L_peak
  rw [rd_motor h (x := 0) hi 0 (by omega) rfl, bd_n, rd_motor h (x := 2) hi 2 (by omega) rfl, bd_n]
  rfl
theorem ceil_eq {p j m : Nat} (hm : 1 ≤ m) : (p * (j + 1) + m - 1) / m = if p * (j + 1) ≤ p * (j + 1) / m * m then p * (j + 1) / m else p * (j + 1) / m + 1 := by
  obtain ⟨x, ex⟩ : ∃ x, x = p * (j + 1) := ⟨_, rfl⟩
  rw [← ex]
  have h1 := Nat.div_add_mod x m
  have h2 := Nat.mod_lt x (show 0 < m by omega)
  obtain ⟨q, eq⟩ : ∃ q, q = x / m := ⟨_, rfl⟩
  obtain ⟨s, es⟩ : ∃ s, s = x % m := ⟨_, rfl⟩
  rw [← eq, ← es] at h1
  rw [← es] at h2
  rw [← eq]
  have h3 : m * q = q * m := Nat.mul_comm _ _
  by_cases h : x ≤ q * m
  · rw [if_pos h]
    have : s = 0 := by omega
    refine Nat.div_eq_of_lt_le ?_ ?_
    · omega
    · rw [Nat.add_mul]; omega
  · rw [if_neg h]
    refine Nat.div_eq_of_lt_le ?_ ?_
    · rw [Nat.add_mul]; omega
    · rw [Nat.add_mul, Nat.add_mul]; omega
theorem ho_L12 (h : WR z k cnt ck t σ τ) {i p m : Nat} (hi : i < cnt) (ep : peakR (τ.1 (z + 174)) i = nI p) (hp : p ≤ 600) (hm : 1 ≤ m) (hm2 : m ≤ 1000) {K : Int32 → bz_W → Option (Int32 × bz_W)} : ∀ fuel j, j ≤ m → m - j < fuel → f_L_heatOf_L12 z (nI i) (nI m) K fuel (hsum (nI p) (nI m) j) (nI (j + 1)) σ = K (hsum (nI p) (nI m) m) σ := by
  intro fuel
  induction fuel with
  | zero => intro j hj h; omega
  | succ f ih =>
    intro j hj hf
    rw [f_L_heatOf_L12]
    by_cases hjn : j = m
    · subst hjn
      rw [if_pos (nI_lt (by omega) (by omega))]
    · have hmul : p * (j + 1) ≤ 600 * 1000 := Nat.mul_le_mul hp (by omega)
      have e0 : (!(nI m == 0)) = true := by
        have : ¬ nI m = nI 0 := fun h => by have := (nI_eq (by omega) (by omega)).mp h; omega
        have : ¬ nI m = 0 := this
        simpa using this
      rw [if_neg (nI_nlt (by omega) (by omega)), l_peak h hi, bd_n, e0, ck_n, lt_n, l_peak h hi, bd_n, lt_n, ep, pk_mul, nI_div (by omega) (by omega) (by omega), pk_mul]
      have hq := Nat.div_mul_le_self (p * (j + 1)) m
      have hq2 := Nat.div_le_self (p * (j + 1)) m
      have er : rampR (nI p) (nI m) (nI j) = nI (if p * (j + 1) ≤ p * (j + 1) / m * m then p * (j + 1) / m else p * (j + 1) / m + 1) := by
        rw [← ceil_eq hm]
        unfold rampR
        rw [nI_1, pk_mul, nI_add, show (1 : Int32) = nI 1 from rfl, pk_sub2 (by omega), nI_div (by omega) (by omega) (by omega)]
      have eh : hsum (nI p) (nI m) (j + 1) = hsum (nI p) (nI m) j + rampR (nI p) (nI m) (nI j) * rampR (nI p) (nI m) (nI j) / 10 := rfl
      have e := ih (j + 1) (by omega) (by omega)
      rw [eh, er] at e
      by_cases hle : p * (j + 1) ≤ p * (j + 1) / m * m
      · rw [if_pos (nI_le hle (by omega))]
        dsimp only
        rw [lt_n, lt_n, lt_n, nI_1, Int32.add_zero]
        rw [if_pos hle] at e
        exact e
      · rw [if_neg (nI_ge (by omega) (by omega))]
        dsimp only
        rw [lt_n, lt_n, lt_n, nI_1, nI_1]
        rw [if_neg hle] at e
        exact e
theorem l_heatOf (h : WR z k cnt ck t σ τ) {i : Nat} (hi : i < cnt) : f_L_heatOf σ z (nI i) = some (needR (τ.1 (z + 174)) i, σ) := by
  have hI := h.2.2.2.2.2.2.2.2.2 i hi
  obtain ⟨p, ep, hp⟩ := peak_N hI
  obtain ⟨-, rm, -, -, -, -, -, -, -, -, -, -, e1, -, -, -, -, -, -, -, -, -, -, b1, -⟩ := hI
  unfold f_L_heatOf
  rw [rd_motor h (x := 1) hi 1 (by omega) rfl, bd_n]
  have e2 : motV (τ.1 (z + 174)) i 1 = nI rm := e1
  rw [e2]
  have e := ho_L12 h hi ep hp (show 1 ≤ rm by omega) (by omega) (K := fun (x17 : Int32) (σ18 : bz_W) => some (x17, σ18)) 1100 0 (by omega) (by omega)
  refine e.trans ?_
  unfold needR
  rw [ep, e1, vN_nI (by omega)]
theorem wy_L44 (h : WR z k cnt ck t σ τ) (p0 : Int32) {K : Int32 → bz_W → Option (Int32 × bz_W)} : ∀ fuel j, j ≤ cnt → cnt - j < fuel → f_L_why_L44 z K fuel (p0 + tsum (τ.1 (z + 174)) j) (nI j) σ = K (p0 + tsum (τ.1 (z + 174)) cnt) σ := by
  have hc := h.2.2.2.2.2.1
  intro fuel
  induction fuel with
  | zero => intro j hj h; omega
  | succ f ih =>
    intro j hj hf
    rw [f_L_why_L44, rd_count0 h, bd_n]
    by_cases hjn : j = cnt
    · subst hjn
      rw [if_pos (nI_le (Nat.le_refl _) (by omega))]
    · have hjc : j < cnt := by omega
      rw [if_neg (nI_ge (by omega) (by omega)), rd_motor h (x := 5) hjc 5 (by omega) rfl, bd_n, lt_n, motV5]
      have e := ih (j + 1) (by omega) (by omega)
      have et : p0 + tsum (τ.1 (z + 174)) (j + 1) = p0 + tsum (τ.1 (z + 174)) j + curR (τ.1 (z + 174)) j := by
        rw [tsum, Int32.add_assoc]
      rw [et] at e
      unfold curR at e
      by_cases h2 : τ.1 (z + 174) (8 + 20 * j + 5) = 2
      · rw [if_pos h2, l_peak h hjc, bd_n]
        dsimp only
        rw [lt_n, lt_n, nI_1]
        rw [if_pos h2] at e
        exact e
      · rw [if_neg h2]
        rw [if_neg h2] at e
        by_cases h3 : τ.1 (z + 174) (8 + 20 * j + 5) = 3
        · rw [if_pos h3, rd_motor h (x := 10) hjc 10 (by omega) rfl, bd_n]
          dsimp only
          rw [lt_n, lt_n, nI_1]
          exact e
        · rw [if_neg h3]
          dsimp only
          rw [lt_n, lt_n, nI_1]
          have ed : drawR (τ.1 (z + 174)) j = 0 := by unfold drawR; rw [if_neg h2, if_neg h3]
          rw [ed] at e
          exact e
theorem l_why (h : WR z k cnt ck t σ τ) {i : Nat} (hi : i < cnt) : f_L_why σ z (nI i) = some (agR (τ.1 (z + 174)) cnt i, σ) := by
  unfold f_L_why agR
  rw [rd_motor h (x := 7) hi 7 (by omega) rfl, bd_n]
  by_cases h7 : τ.1 (z + 174) (8 + 20 * i + 7) = 0
  · rw [if_pos (show motV (τ.1 (z + 174)) i 7 = 0 from h7), if_pos h7, rd_motor h (x := 3) hi 3 (by omega) rfl, bd_n, rd_motor h (x := 6) hi 6 (by omega) rfl, bd_n, rd_start h hi, bd_n]
    by_cases hh : needR (τ.1 (z + 174)) i ≤ credR (τ.1 (z + 174)) i
    · rw [if_pos (show needR (τ.1 (z + 174)) i ≤ motV (τ.1 (z + 174)) i 3 - motV (τ.1 (z + 174)) i 6 from hh), if_pos hh, l_peak h hi, bd_n]
      have e := wy_L44 h (peakR (τ.1 (z + 174)) i) (K := fun (x29 : Int32) (σ30 : bz_W) => bd_ (f_X6_count σ30 z 6) fun r31 σ32 => if x29 ≤ r31 then some (0, σ32) else some (3, σ32)) 1100 0 (by omega) (by have := h.2.2.2.2.2.1; omega)
      rw [show peakR (τ.1 (z + 174)) i + tsum (τ.1 (z + 174)) 0 = peakR (τ.1 (z + 174)) i from Int32.add_zero _] at e
      refine e.trans ?_
      rw [rd_count h (x := 6) 6 (by omega) rfl, bd_n]
      by_cases hl : peakR (τ.1 (z + 174)) i + tsum (τ.1 (z + 174)) cnt ≤ τ.1 (z + 174) 2
      · rw [if_pos (show _ ≤ cntV (τ.1 (z + 174)) cnt (τ.1 (z + 173) 5) (τ.1 (z + 173) 2) 6 from hl), if_pos hl]
      · rw [if_neg (show ¬ _ ≤ cntV (τ.1 (z + 174)) cnt (τ.1 (z + 173) 5) (τ.1 (z + 173) 2) 6 from hl), if_neg hl]
    · rw [if_neg (show ¬ needR (τ.1 (z + 174)) i ≤ motV (τ.1 (z + 174)) i 3 - motV (τ.1 (z + 174)) i 6 from hh), if_neg hh]
  · rw [if_neg (show ¬ motV (τ.1 (z + 174)) i 7 = 0 from h7), if_neg h7]
theorem po_L4 (h : WR z k cnt ck t σ τ) {K : Int32 → bz_W → Option (Int32 × bz_W)} : ∀ fuel j, j ≤ cnt → cnt - j < fuel → f_L_passedOver_L4 z K fuel (fsum (fun i => τ.1 (z + 174) (8 + 20 * i + 18)) j) (nI j) σ = K (fsum (fun i => τ.1 (z + 174) (8 + 20 * i + 18)) cnt) σ := by
  have hc := h.2.2.2.2.2.1
  intro fuel
  induction fuel with
  | zero => intro j hj h; omega
  | succ f ih =>
    intro j hj hf
    rw [f_L_passedOver_L4, rd_count0 h, bd_n]
    by_cases hjn : j = cnt
    · subst hjn
      rw [if_pos (nI_le (Nat.le_refl _) (by omega))]
    · have hjc : j < cnt := by omega
      rw [if_neg (nI_ge (by omega) (by omega)), rd_account h (x := 6) hjc 6 (by omega) rfl, bd_n, lt_n, lt_n, nI_1]
      exact ih (j + 1) (by omega) (by omega)
theorem l_over (h : WR z k cnt ck t σ τ) : f_L_passedOver σ z = some (fsum (fun i => τ.1 (z + 174) (8 + 20 * i + 18)) cnt, σ) :=
  po_L4 h (K := fun (x8 : Int32) (σ9 : bz_W) => some (x8, σ9)) 1100 0 (by omega) (by have := h.2.2.2.2.2.1; omega)
theorem l_urg (h : WR z k cnt ck t σ τ) {i : Nat} (hi : i < cnt) (hw : τ.1 (z + 174) (8 + 20 * i + 5) = 1) : f_L_urgency σ z (nI i) = some (nI (uR (τ.1 (z + 174)) i), σ) := by
  have hI := h.2.2.2.2.2.2.2.2.2 i hi
  have h1 := h.2.2.2.1
  have hck := h.2.2.2.2.2.2.1
  obtain ⟨-, -, -, -, ne, -, -, -, -, si, -, -, -, -, -, e4, -, -, -, -, e9, -, -, -, -, -, b4, -, -, -, -, b9, -⟩ := hI
  unfold f_L_urgency
  rw [rd_motor h (x := 4) hi 4 (by omega) rfl, bd_n, rd_motor h (x := 9) hi 9 (by omega) rfl, bd_n, motV9, if_pos hw]
  have e : motV (τ.1 (z + 174)) i 4 = nI ne := e4
  rw [e, h1, e9, pk_sub2 b9, show (10 : Int32) = nI 10 from rfl, nI_div (by omega) (by omega) (by omega), nI_add]
  unfold uR
  rw [e4, h1, e9, vN_nI (by omega), vN_nI (by omega), vN_nI (by omega)]
end DG
