/-! what holds of a motor in a row of the model; who is ahead; the queue's counts -/
def IM (r : Nat → Int32) (ck i : Nat) : Prop := ∃ ra rm fa li ne md he lo sc si la : Nat,
  r (8 + 20 * i) = nI ra ∧ r (8 + 20 * i + 1) = nI rm ∧ r (8 + 20 * i + 2) = nI fa ∧ r (8 + 20 * i + 3) = nI li ∧ r (8 + 20 * i + 4) = nI ne ∧ r (8 + 20 * i + 5) = nI md ∧ r (8 + 20 * i + 6) = nI he ∧ r (8 + 20 * i + 7) = nI lo ∧ r (8 + 20 * i + 8) = nI sc ∧ r (8 + 20 * i + 9) = nI si ∧ r (8 + 20 * i + 10) = nI la ∧
  (1 ≤ ra ∧ ra ≤ 100) ∧ (2 ≤ rm ∧ rm ≤ 30) ∧ (2 ≤ fa ∧ fa ≤ 6) ∧ (100 ≤ li ∧ li ≤ 60000) ∧ ne ≤ 9 ∧ md ≤ 4 ∧ he ≤ 200000 ∧ lo ≤ 7 ∧ (sc ≤ 30 ∧ (md = 2 → sc < rm)) ∧ si ≤ ck ∧ (la ≤ 3 ∧ (md = 3 → la ≤ 2)) ∧ ((md = 2 ∨ md = 3) → he ≤ li)
theorem IM.mono {r : Nat → Int32} {ck ck' i : Nat} (h : IM r ck i) (hc : ck ≤ ck') : IM r ck' i := by
  obtain ⟨ra, rm, fa, li, ne, md, he, lo, sc, si, la, e0, e1, e2, e3, e4, e5, e6, e7, e8, e9, e10, b0, b1, b2, b3, b4, b5, b6, b7, b8, b9, b10, b11⟩ := h
  exact ⟨ra, rm, fa, li, ne, md, he, lo, sc, si, la, e0, e1, e2, e3, e4, e5, e6, e7, e8, e9, e10, b0, b1, b2, b3, b4, b5, b6, b7, b8, by omega, b10, b11⟩
theorem IM.congr {r r' : Nat → Int32} {ck i : Nat} (h : IM r ck i) (hr : ∀ w, w < 11 → r' (8 + 20 * i + w) = r (8 + 20 * i + w)) : IM r' ck i := by
  unfold IM
  rw [show r' (8 + 20 * i) = r (8 + 20 * i) from hr 0 (by decide), hr 1 (by decide), hr 2 (by decide), hr 3 (by decide), hr 4 (by decide), hr 5 (by decide), hr 6 (by decide), hr 7 (by decide), hr 8 (by decide), hr 9 (by decide), hr 10 (by decide)]
  exact h
def vN (x : Int32) : Nat := x.toNatClampNeg
theorem vN_nI {n : Nat} (h : n < 2 ^ 31) : vN (nI n) = n := nI_clamp h
def uR (r : Nat → Int32) (i : Nat) : Nat := vN (r (8 + 20 * i + 4)) + (vN (r 1) - vN (r (8 + 20 * i + 9))) / 10
def sR (r : Nat → Int32) (i : Nat) : Nat := vN (r (8 + 20 * i + 9))
def ah (r : Nat → Int32) (i j : Nat) : Prop := uR r j < uR r i ∨ (uR r j = uR r i ∧ (sR r i < sR r j ∨ (sR r i = sR r j ∧ i < j)))
def ahB (r : Nat → Int32) (i j : Nat) : Bool := decide (uR r j < uR r i) || (decide (uR r j = uR r i) && (decide (sR r i < sR r j) || (decide (sR r i = sR r j) && decide (i < j))))
theorem ahB_iff {r : Nat → Int32} {i j : Nat} : ahB r i j = true ↔ ah r i j := by simp [ahB, ah]
theorem ah_irr (r : Nat → Int32) (i : Nat) : ¬ ah r i i := by unfold ah; omega
theorem ah_trans {r : Nat → Int32} {i j k : Nat} (h1 : ah r i j) (h2 : ah r j k) : ah r i k := by unfold ah at *; omega
theorem ah_total (r : Nat → Int32) {i j : Nat} (h : i ≠ j) : ah r i j ∨ ah r j i := by unfold ah; omega
theorem ah_asym {r : Nat → Int32} {i j : Nat} (h1 : ah r i j) : ¬ ah r j i := by unfold ah at *; omega
def wtB (r : Nat → Int32) (i : Nat) : Bool := decide (r (8 + 20 * i + 5) = 1)
theorem pk_sub2 {a b : Nat} (h : b ≤ a) : nI a - nI b = nI (a - b) := pk_sub h
theorem nI_div {a d : Nat} (ha : a < 2 ^ 31) (h0 : 0 < d) (hd : d < 2 ^ 31) : nI a / nI d = nI (a / d) := pk_div ha h0 hd
def pcnt (r : Nat → Int32) (m : Nat) : Nat → Nat
  | 0 => 0
  | n + 1 => pcnt r m n + (if n ≠ m ∧ wtB r n = true ∧ ahB r n m = true then 1 else 0)
theorem pcnt_le (r : Nat → Int32) (m : Nat) : ∀ n, pcnt r m n ≤ n
  | 0 => Nat.le_refl _
  | n + 1 => by
    have := pcnt_le r m n
    unfold pcnt
    split <;> omega
def curR (r : Nat → Int32) (i : Nat) : Int32 := if r (8 + 20 * i + 5) = 2 then peakR r i else drawR r i
def tsum (r : Nat → Int32) : Nat → Int32
  | 0 => 0
  | n + 1 => tsum r n + curR r n
def needR (r : Nat → Int32) (i : Nat) : Int32 := hsum (peakR r i) (r (8 + 20 * i + 1)) (vN (r (8 + 20 * i + 1)))
def agR (r : Nat → Int32) (cnt i : Nat) : Int32 := if r (8 + 20 * i + 7) = 0 then (if needR r i ≤ credR r i then (if peakR r i + tsum r cnt ≤ r 2 then 0 else 3) else 2) else 4
section MOD
variable {τ : bz_W} {M N i j ck cnt : Nat} {r : Nat → Int32}
theorem m_ahead (hN : τ.2 M 0 = N) (hi : i < 8) (hj : j < 8) (h1 : r 1 = nI ck) (hck : ck < 2 ^ 30) (hI : IM r ck i) (hJ : IM r ck j) : f_X7_isAhead (bz_wb τ N r) M (nI i) (nI j) = some (if ahB r i j = true then 1 else 0, bz_wb τ N r) := by
  obtain ⟨-, -, -, -, ne, -, -, -, -, si, -, -, -, -, -, e4, -, -, -, -, e9, -, -, -, -, -, b4, -, -, -, -, b9, -, -⟩ := hI
  obtain ⟨-, -, -, -, ne2, -, -, -, -, si2, -, -, -, -, -, f4, -, -, -, -, f9, -, -, -, -, -, c4, -, -, -, -, c9, -, -⟩ := hJ
  unfold f_X7_isAhead
  simp only [m_of4 hN hi, m_of4 hN hj, m_waited hN hi, m_waited hN hj, bd_s, lt_d, e4, e9, f4, f9, h1]
  rw [pk_sub2 b9, pk_sub2 c9]
  have d1 : nI (ck - si) / 10 = nI ((ck - si) / 10) := nI_div (d := 10) (by omega) (by decide) (by decide)
  have d2 : nI (ck - si2) / 10 = nI ((ck - si2) / 10) := nI_div (d := 10) (by omega) (by decide) (by decide)
  rw [d1, d2, nI_add, nI_add]
  have u1 : uR r i = ne + (ck - si) / 10 := by simp only [uR, e4, e9, h1]; rw [vN_nI (by omega), vN_nI (by omega), vN_nI (by omega)]
  have u2 : uR r j = ne2 + (ck - si2) / 10 := by simp only [uR, f4, f9, h1]; rw [vN_nI (by omega), vN_nI (by omega), vN_nI (by omega)]
  have s1 : sR r i = si := by simp only [sR, e9]; rw [vN_nI (by omega)]
  have s2 : sR r j = si2 := by simp only [sR, f9]; rw [vN_nI (by omega)]
  have hah : ahB r i j = true ↔ (ne2 + (ck - si2) / 10 < ne + (ck - si) / 10 ∨ (ne2 + (ck - si2) / 10 = ne + (ck - si) / 10 ∧ (si < si2 ∨ (si = si2 ∧ i < j)))) := by
    rw [ahB_iff]
    unfold ah
    rw [u1, u2, s1, s2]
  have q1 : nI (ne + (ck - si) / 10) = nI (ne2 + (ck - si2) / 10) ↔ ne + (ck - si) / 10 = ne2 + (ck - si2) / 10 := nI_eq (by omega) (by omega)
  have q2 : nI (ne + (ck - si) / 10) ≤ nI (ne2 + (ck - si2) / 10) ↔ ne + (ck - si) / 10 ≤ ne2 + (ck - si2) / 10 := nI_leI (by omega) (by omega)
  have q3 : nI (ck - si) = nI (ck - si2) ↔ ck - si = ck - si2 := nI_eq (by omega) (by omega)
  have q4 : nI (ck - si) ≤ nI (ck - si2) ↔ ck - si ≤ ck - si2 := nI_leI (by omega) (by omega)
  have q5 : nI j ≤ nI i ↔ j ≤ i := nI_leI (by omega) (by omega)
  by_cases a1 : ne + (ck - si) / 10 = ne2 + (ck - si2) / 10
  · rw [if_pos (q1.mpr a1)]
    by_cases a2 : ck - si = ck - si2
    · rw [if_pos (q3.mpr a2)]
      by_cases a3 : j ≤ i
      · rw [if_pos (q5.mpr a3), if_neg (by rw [hah]; omega)]
      · rw [if_neg (fun h => a3 (q5.mp h)), if_pos (by rw [hah]; omega)]
    · rw [if_neg (fun h => a2 (q3.mp h))]
      by_cases a3 : ck - si ≤ ck - si2
      · rw [if_pos (q4.mpr a3), if_neg (by rw [hah]; omega)]
      · rw [if_neg (fun h => a3 (q4.mp h)), if_pos (by rw [hah]; omega)]
  · rw [if_neg (fun h => a1 (q1.mp h))]
    by_cases a3 : ne + (ck - si) / 10 ≤ ne2 + (ck - si2) / 10
    · rw [if_pos (q2.mpr a3), if_neg (by rw [hah]; omega)]
    · rw [if_neg (fun h => a3 (q2.mp h)), if_pos (by rw [hah]; omega)]
theorem m_placeL (hN : τ.2 M 0 = N) (h0 : r 0 = nI cnt) (hc : cnt ≤ 8) (h1 : r 1 = nI ck) (hck : ck < 2 ^ 30) (hI : ∀ x, x < cnt → IM r ck x) {m : Nat} (hm : m < cnt) {k : Int32 → bz_W → Option (Int32 × bz_W)} : ∀ fuel j, j ≤ cnt → cnt - j < fuel → f_X7_placeOf_L4 M (nI m) k fuel (nI (pcnt r m j)) (nI j) (bz_wb τ N r) = k (nI (pcnt r m cnt)) (bz_wb τ N r) := by
  intro fuel
  induction fuel with
  | zero => intro j hj h; omega
  | succ f ih =>
    intro j hj h
    rw [f_X7_placeOf_L4]
    rw [wb_2, hN, wb_s, h0]
    by_cases hjn : j = cnt
    · subst hjn
      rw [if_pos (nI_le (Nat.le_refl _) (by omega))]
    · rw [if_neg (nI_ge (by omega) (by omega))]
      have hj8 : j < 8 := by omega
      simp only [lt_d, m_waits hN hj8, bd_s, m_ahead hN hj8 (show m < 8 by omega) h1 hck (hI j (by omega)) (hI m hm)]
      have next : ∀ d : Nat, pcnt r m (j + 1) = pcnt r m j + d → f_X7_placeOf_L4 M (nI m) k f (nI (pcnt r m j) + nI d) (nI j + 1) (bz_wb τ N r) = k (nI (pcnt r m cnt)) (bz_wb τ N r) := by
        intro d hd
        rw [nI_add, nI_1, ← hd]
        exact ih (j + 1) (by omega) (by omega)
      have z0 : (0 : Int32) = nI 0 := rfl
      have z1 : (1 : Int32) = nI 1 := rfl
      by_cases hjm : j = m
      · rw [if_pos (by rw [hjm]), z0]
        exact next 0 (by simp [pcnt, hjm])
      · have hne : ¬ nI j = nI m := fun e => hjm ((nI_eq (by omega) (by omega)).mp e)
        rw [if_neg hne]
        by_cases hw : r (8 + 20 * j + 5) = 1
        · rw [if_pos hw, if_neg (by decide)]
          by_cases ha : ahB r j m = true
          · rw [if_pos ha, if_neg (by decide)]
            rw [z1]
            exact next 1 (by simp [pcnt, hjm, wtB, hw, ha])
          · rw [if_neg ha, if_pos rfl]
            rw [z0]
            exact next 0 (by simp [pcnt, hjm, wtB, hw, ha])
        · rw [if_neg hw, if_pos rfl]
          rw [z0]
          exact next 0 (by simp [pcnt, wtB, hw])
theorem m_placeOf (hN : τ.2 M 0 = N) (h0 : r 0 = nI cnt) (hc : cnt ≤ 8) (h1 : r 1 = nI ck) (hck : ck < 2 ^ 30) (hI : ∀ x, x < cnt → IM r ck x) {m : Nat} (hm : m < cnt) : f_X7_placeOf (bz_wb τ N r) M (nI m) = some (nI (pcnt r m cnt), bz_wb τ N r) := by
  unfold f_X7_placeOf
  exact m_placeL hN h0 hc h1 hck hI hm 1100 0 (Nat.zero_le _) (by omega)
theorem m_watY (hN : τ.2 M 0 = N) (h0 : r 0 = nI cnt) (hc : cnt ≤ 8) (h1 : r 1 = nI ck) (hck : ck < 2 ^ 30) (hI : ∀ x, x < cnt → IM r ck x) {m p : Nat} (hp : p < 2 ^ 31) (hm : m < cnt) (hw : wtB r m = true) (hpc : pcnt r m cnt = p) (hu : ∀ x, x < m → wtB r x = true → pcnt r x cnt ≠ p) : f_X7_waitingAt (bz_wb τ N r) M (nI p) = some (nI m, bz_wb τ N r) := by
  unfold f_X7_waitingAt
  have key : ∀ fuel j, j ≤ m → m - j < fuel → f_X7_waitingAt_L2 M (nI p) (fun (σ12 : bz_W) => some ((-4), σ12)) fuel (nI j) (bz_wb τ N r) = some (nI m, bz_wb τ N r) := by
    intro fuel
    induction fuel with
    | zero => intro j hj h; omega
    | succ f ih =>
      intro j hj h
      rw [f_X7_waitingAt_L2]
      have hj8 : j < 8 := by omega
      have hpl := pcnt_le r j cnt
      rw [wb_2, hN, wb_s, h0, if_neg (nI_ge (by omega) (by omega))]
      simp only [lt_d, m_waits hN hj8, bd_s, m_placeOf hN h0 hc h1 hck hI (show j < cnt by omega), nI_1]
      by_cases hjm : j = m
      · subst hjm
        have hw' : r (8 + 20 * j + 5) = 1 := by simpa [wtB] using hw
        rw [if_pos hw', if_neg (by decide), hpc, if_pos rfl]
      · by_cases hwj : r (8 + 20 * j + 5) = 1
        · have hne : ¬ nI (pcnt r j cnt) = nI p := fun e => hu j (by omega) (by simp [wtB, hwj]) ((nI_eq (by omega) hp).mp e)
          rw [if_pos hwj, if_neg (by decide), if_neg hne]
          exact ih (j + 1) (by omega) (by omega)
        · rw [if_neg hwj, if_pos rfl]
          exact ih (j + 1) (by omega) (by omega)
  exact key 1100 0 (Nat.zero_le _) (by omega)
theorem m_watN (hN : τ.2 M 0 = N) (h0 : r 0 = nI cnt) (hc : cnt ≤ 8) (h1 : r 1 = nI ck) (hck : ck < 2 ^ 30) (hI : ∀ x, x < cnt → IM r ck x) {p : Nat} (hp : p < 2 ^ 31) (hu : ∀ x, x < cnt → wtB r x = true → pcnt r x cnt ≠ p) : f_X7_waitingAt (bz_wb τ N r) M (nI p) = some (-4, bz_wb τ N r) := by
  unfold f_X7_waitingAt
  have key : ∀ fuel j, j ≤ cnt → cnt - j < fuel → f_X7_waitingAt_L2 M (nI p) (fun (σ12 : bz_W) => some ((-4), σ12)) fuel (nI j) (bz_wb τ N r) = some (-4, bz_wb τ N r) := by
    intro fuel
    induction fuel with
    | zero => intro j hj h; omega
    | succ f ih =>
      intro j hj h
      rw [f_X7_waitingAt_L2]
      rw [wb_2, hN, wb_s, h0]
      by_cases hjn : j = cnt
      · subst hjn
        rw [if_pos (nI_le (Nat.le_refl _) (by omega))]
      · have hj8 : j < 8 := by omega
        have hpl := pcnt_le r j cnt
        rw [if_neg (nI_ge (by omega) (by omega))]
        simp only [lt_d, m_waits hN hj8, bd_s, m_placeOf hN h0 hc h1 hck hI (show j < cnt by omega), nI_1]
        by_cases hwj : r (8 + 20 * j + 5) = 1
        · have hne : ¬ nI (pcnt r j cnt) = nI p := fun e => hu j (by omega) (by simp [wtB, hwj]) ((nI_eq (by omega) hp).mp e)
          rw [if_pos hwj, if_neg (by decide), if_neg hne]
          exact ih (j + 1) (by omega) (by omega)
        · rw [if_neg hwj, if_pos rfl]
          exact ih (j + 1) (by omega) (by omega)
  exact key 1100 0 (Nat.zero_le _) (by omega)
theorem IM.ramp0 (h : IM r ck i) : ¬ r (8 + 20 * i + 1) = 0 := by
  obtain ⟨-, rm, -, -, -, -, -, -, -, -, -, -, e1, -, -, -, -, -, -, -, -, -, -, b1, -⟩ := h
  rw [e1]
  exact nI_ne0 (by omega) (by omega)
theorem m_need (hN : τ.2 M 0 = N) (hi : i < 8) (hI : IM r ck i) : f_X7_needed (bz_wb τ N r) M (nI i) = some (needR r i, bz_wb τ N r) := by
  obtain ⟨-, rm, -, -, -, -, -, -, -, -, -, -, e1, -, -, -, -, -, -, -, -, -, -, b1, -⟩ := hI
  rw [m_needed hN hi (n := rm) (by omega) (by omega) e1]
  unfold needR
  rw [e1, vN_nI (by omega)]
theorem m_agL (hN : τ.2 M 0 = N) (h0 : r 0 = nI cnt) (hc : cnt ≤ 8) (hI : ∀ x, x < cnt → IM r ck x) (p0 : Int32) {k : Int32 → bz_W → Option (Int32 × bz_W)} : ∀ fuel j, j ≤ cnt → cnt - j < fuel → f_X7_against_L35 M k fuel (p0 + tsum r j) (nI j) (bz_wb τ N r) = k (p0 + tsum r cnt) (bz_wb τ N r) := by
  intro fuel
  induction fuel with
  | zero => intro j hj h; omega
  | succ f ih =>
    intro j hj h
    rw [f_X7_against_L35]
    rw [wb_2, hN, wb_s, h0]
    by_cases hjn : j = cnt
    · subst hjn
      rw [if_pos (nI_le (Nat.le_refl _) (by omega))]
    · have hj8 : j < 8 := by omega
      rw [if_neg (nI_ge (by omega) (by omega))]
      have next : ∀ v : Int32, v = curR r j → f_X7_against_L35 M k f (p0 + tsum r j + v) (nI j + 1) (bz_wb τ N r) = k (p0 + tsum r cnt) (bz_wb τ N r) := by
        intro v hv
        rw [nI_1, Int32.add_assoc, hv]
        exact ih (j + 1) (by omega) (by omega)
      simp only [lt_d, m_of5 hN hj8, bd_s, m_peak hN hj8, m_draws hN hj8 (hI j (by omega)).ramp0]
      by_cases h2 : r (8 + 20 * j + 5) = 2
      · rw [if_pos h2]
        exact next _ (by simp [curR, h2])
      · rw [if_neg h2]
        by_cases h3 : r (8 + 20 * j + 5) = 3
        · rw [if_pos h3]
          exact next _ (by simp [curR, h2])
        · rw [if_neg h3]
          exact next _ (by simp [curR, drawR, h2, h3])
theorem m_against (hN : τ.2 M 0 = N) (h0 : r 0 = nI cnt) (hc : cnt ≤ 8) (hI : ∀ x, x < cnt → IM r ck x) (hi : i < cnt) : f_X7_against (bz_wb τ N r) M (nI i) = some (agR r cnt i, bz_wb τ N r) := by
  have hi8 : i < 8 := by omega
  unfold f_X7_against agR
  simp only [m_of7 hN hi8, bd_s, m_credit hN hi8, m_need hN hi8 (hI i hi), m_peak hN hi8]
  have hl := m_agL (τ := τ) hN h0 hc hI (peakR r i) (k := fun (x28 : Int32) (σ29 : bz_W) => if x28 ≤ (σ29.1 (σ29.2 M 0) 2) then some (0, σ29) else some (3, σ29)) 1100 0 (Nat.zero_le _) (by omega)
  have e0 : peakR r i + tsum r 0 = peakR r i := by simp [tsum]
  rw [e0, nI_0] at hl
  rw [hl]
  simp only [wb_2, hN, wb_s]
  split
  · split
    · split <;> rfl
    · rfl
  · rfl
end MOD
