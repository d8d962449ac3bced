/-! pass: the first that can start -/
def startR (r : Nat → Int32) (m : Nat) : Nat → Int32 := upd (upd (upd r (8 + 20 * m + 5) 2) (8 + 20 * m + 8) 0) (8 + 20 * m + 14) (r (8 + 20 * m + 14) + 1)
def piR (r : Nat → Int32) (S : Nat → Bool) : Nat → (Nat → Int32)
  | 0 => r
  | n + 1 => if S n = true then upd (piR r S n) (8 + 20 * n + 18) (piR r S n (8 + 20 * n + 18) + 1) else piR r S n
def plR (r : Nat → Int32) (l : List Nat) : Nat → (Nat → Int32)
  | 0 => r
  | n + 1 => upd (plR r l n) (8 + 20 * l.getD n 0 + 18) (plR r l n (8 + 20 * l.getD n 0 + 18) + 1)
theorem piR_o {r : Nat → Int32} {S : Nat → Bool} {y : Nat} : ∀ n, (∀ x, x < n → y ≠ 8 + 20 * x + 18) → piR r S n y = r y
  | 0, _ => rfl
  | n + 1, h => by
    have ih := piR_o (r := r) (S := S) n (fun x hx => h x (by omega))
    unfold piR
    split
    · rw [up_o _ _ (h n (by omega)), ih]
    · exact ih
theorem piR_in {r : Nat → Int32} {S : Nat → Bool} {x : Nat} : ∀ n, x < n → piR r S n (8 + 20 * x + 18) = if S x = true then r (8 + 20 * x + 18) + 1 else r (8 + 20 * x + 18)
  | 0, h => absurd h (Nat.not_lt_zero _)
  | n + 1, h => by
    unfold piR
    by_cases e : x = n
    · subst e
      have := piR_o (r := r) (S := S) (y := 8 + 20 * x + 18) x (fun w hw => by omega)
      split
      · rw [up_s, this]
      · exact this
    · have ih := piR_in (r := r) (S := S) n (show x < n by omega)
      split
      · rw [up_o _ _ (by omega), ih]
      · exact ih
theorem plR_o {r : Nat → Int32} {l : List Nat} {y : Nat} : ∀ n, (∀ p, p < n → y ≠ 8 + 20 * l.getD p 0 + 18) → plR r l n y = r y
  | 0, _ => rfl
  | n + 1, h => by
    unfold plR
    rw [up_o _ _ (h n (by omega)), plR_o n (fun x hx => h x (by omega))]
theorem plR_in {r : Nat → Int32} {l : List Nat} (hd : ∀ p q, p < l.length → q < l.length → l.getD p 0 = l.getD q 0 → p = q) {p : Nat} : ∀ n, n ≤ l.length → p < n → plR r l n (8 + 20 * l.getD p 0 + 18) = r (8 + 20 * l.getD p 0 + 18) + 1
  | 0, _, h => absurd h (Nat.not_lt_zero _)
  | n + 1, hn, h => by
    unfold plR
    by_cases e : p = n
    · subst e
      rw [up_s, plR_o p (fun w hw q => by
        have := hd p w (by omega) (by omega) (by omega)
        omega)]
    · rw [up_o _ _ (fun q => e (hd p n (by omega) (by omega) (by omega))), plR_in hd n (by omega) (by omega)]
theorem ahB_congr {r r' : Nat → Int32} (h : ∀ y, (∀ x, y ≠ 8 + 20 * x + 18) → r' y = r y) (i j : Nat) : ahB r' i j = ahB r i j := by
  have u : ∀ i, uR r' i = uR r i := fun i => by unfold uR; rw [h _ (fun x => by omega), h 1 (fun x => by omega), h _ (fun x => by omega)]
  have s : ∀ i, sR r' i = sR r i := fun i => by unfold sR; rw [h _ (fun x => by omega)]
  unfold ahB
  rw [u, u, s, s]
theorem pcnt_congr {r r' : Nat → Int32} (h : ∀ y, (∀ x, y ≠ 8 + 20 * x + 18) → r' y = r y) (m : Nat) : ∀ n, pcnt r' m n = pcnt r m n
  | 0 => rfl
  | n + 1 => by
    have w : wtB r' n = wtB r n := by unfold wtB; rw [h _ (fun x => by omega)]
    unfold pcnt
    rw [pcnt_congr h m n, ahB_congr h, w]
section SF
variable {σ τ : bz_W} {z i cnt ck t sz nx : Nat} {r : Nat → Int32} {l : List Nat}
def wv (l : List Nat) (p : Nat) : Int32 := if p < l.length then nI (l.getD p 0) else -4
theorem m_wat (h : NW z σ r cnt ck t sz nx) (hN : τ.2 (z + 173) 0 = z + 174) (hl : LineOK r cnt l) {p : Nat} (hp : p < 2 ^ 31) : f_X7_waitingAt (bz_wb τ (z + 174) r) (z + 173) (nI p) = some (wv l p, bz_wb τ (z + 174) r) := by
  obtain ⟨hz, hL, hnm, hS, hI, hs0, hs6⟩ := id h
  unfold wv
  by_cases hpl : p < l.length
  · have hm := (hl.mem _).mp (getD_mem hpl)
    rw [if_pos hpl]
    exact m_watY hN hS.1.2 hI.1 hS.2.1.2 hI.2.1 hI.2.2.2.2.2.2.1 hp hm.1 hm.2 (hl.place hpl) (fun x hx hwx e => by
      obtain ⟨q, q1, q2⟩ := mem_getD ((hl.mem x).mpr ⟨by omega, hwx⟩)
      have := hl.place q1
      rw [q2, e] at this
      subst this
      omega)
  · rw [if_neg hpl]
    exact m_watN hN hS.1.2 hI.1 hS.2.1.2 hI.2.1 hI.2.2.2.2.2.2.1 hp (fun x hx hwx e => by
      obtain ⟨q, q1, q2⟩ := mem_getD ((hl.mem x).mpr ⟨by omega, hwx⟩)
      have := hl.place q1
      rw [q2, e] at this
      omega)
theorem m_stL (h : NW z σ r cnt ck t sz nx) (hN : τ.2 (z + 173) 0 = z + 174) (hl : LineOK r cnt l) {q : Nat} (hq : q ≤ l.length) (h1 : ∀ p, p < q → ¬ agR r cnt (l.getD p 0) = 0) (h2 : q < l.length → agR r cnt (l.getD q 0) = 0) {k : Int32 → Int32 → bz_W → Option (Int32 × bz_W)} : ∀ fuel p, p ≤ q → q - p < fuel → f_X7_startOne_L8 (z + 173) k fuel (nI p) (wv l p) (bz_wb τ (z + 174) r) = k (nI q) (wv l q) (bz_wb τ (z + 174) r) := by
  have hlen := hl.len
  have hc := h.2.2.2.2.1.1
  intro fuel
  induction fuel with
  | zero => intro p hp hf; omega
  | succ f ih =>
    intro p hp hf
    rw [f_X7_startOne_L8]
    by_cases hpl : p < l.length
    · have ev : wv l p = nI (l.getD p 0) := by unfold wv; rw [if_pos hpl]
      have hm := (hl.mem _).mp (getD_mem hpl)
      have hne : ¬ nI (l.getD p 0) = -4 := fun e => by
        have := nI_pos (n := l.getD p 0) (by omega)
        rw [e] at this
        exact this (by decide)
      rw [ev, if_neg hne, m_against hN h.2.2.2.1.1.2 hc h.2.2.2.2.1.2.2.2.2.2.2.1 hm.1, bd_n]
      by_cases e : p = q
      · subst e
        rw [if_pos (h2 hpl), ev]
      · rw [if_neg (h1 p (by omega)), lt_n, nI_1, m_wat h hN hl (by omega), bd_n]
        exact ih (p + 1) (by omega) (by omega)
    · have e : p = q := by omega
      subst e
      have ev : wv l p = -4 := by unfold wv; rw [if_neg hpl]
      rw [ev, if_pos rfl]
theorem m_piL (h : NW z σ r cnt ck t sz nx) (hN : τ.2 (z + 173) 0 = z + 174) {q : Nat} (hq : q ≤ 8) (x2 : Int32) {k : bz_W → Option (Int32 × bz_W)} : ∀ fuel j, j ≤ cnt → cnt - j < fuel → f_X7_startOne_L44 (z + 173) (nI q) x2 k fuel (nI j) (bz_wb τ (z + 174) (piR r (fun x => wtB r x && decide (pcnt r x cnt < q)) j)) = k (bz_wb τ (z + 174) (piR r (fun x => wtB r x && decide (pcnt r x cnt < q)) cnt)) := by
  obtain ⟨hz, hL, hnm, hS, hI, hs0, hs6⟩ := id h
  have hc := hI.1
  intro fuel
  induction fuel with
  | zero => intro j hj hf; omega
  | succ f ih =>
    intro j hj hf
    obtain ⟨r', hr'⟩ : ∃ r', r' = piR r (fun x => wtB r x && decide (pcnt r x cnt < q)) j := ⟨_, rfl⟩
    have ho : ∀ y, (∀ x, y ≠ 8 + 20 * x + 18) → r' y = r y := fun y hy => by rw [hr']; exact piR_o j fun x hx => hy x
    have h0 : r' 0 = nI cnt := by rw [ho 0 (fun x => by omega)]; exact hS.1.2
    have h1 : r' 1 = nI ck := by rw [ho 1 (fun x => by omega)]; exact hS.2.1.2
    have hIM : ∀ x, x < cnt → IM r' ck x := fun x hx => (hI.2.2.2.2.2.2.1 x hx).congr fun w hw => ho _ (fun x => by omega)
    rw [f_X7_startOne_L44, ← hr', wb_2, hN, wb_s, h0]
    by_cases e : j = cnt
    · subst e
      rw [if_pos (nI_le (Nat.le_refl _) (by omega)), hr']
    · have hjc : j < cnt := by omega
      have hj8 : j < 8 := by omega
      have hpl := pcnt_le r j cnt
      have hnext := ih (j + 1) (by omega) (by omega)
      have eS : piR r (fun x => wtB r x && decide (pcnt r x cnt < q)) (j + 1) = if (wtB r j && decide (pcnt r j cnt < q)) = true then upd r' (8 + 20 * j + 18) (r' (8 + 20 * j + 18) + 1) else r' := by rw [hr']; rfl
      rw [eS] at hnext
      rw [if_neg (nI_ge (by omega) (by omega)), m_waits hN hj8, bd_n, lt_n, ho (8 + 20 * j + 5) (fun x => by omega), m_placeOf hN h0 hc h1 hI.2.1 hIM hjc, bd_n, pcnt_congr ho]
      by_cases hw : r (8 + 20 * j + 5) = 1
      · have hwt : wtB r j = true := by simp [wtB, hw]
        rw [if_pos hw, if_neg (by decide)]
        by_cases hp : pcnt r j cnt < q
        · rw [if_neg (nI_ge hp (by omega)), m_more18 hN hj8, bd_n]
          dsimp only
          rw [lt_n, nI_1]
          have : (wtB r j && decide (pcnt r j cnt < q)) = true := by simp [hwt, hp]
          rw [if_pos this] at hnext
          exact hnext
        · rw [if_pos (nI_le (by omega) (by omega))]
          dsimp only
          rw [lt_n, nI_1]
          have : ¬ (wtB r j && decide (pcnt r j cnt < q)) = true := by simp [hp]
          rw [if_neg this] at hnext
          exact hnext
      · have hwt : ¬ wtB r j = true := by simp [wtB, hw]
        rw [if_neg hw, if_pos rfl]
        dsimp only
        rw [lt_n, nI_1]
        have : ¬ (wtB r j && decide (pcnt r j cnt < q)) = true := by simp [hwt]
        rw [if_neg this] at hnext
        exact hnext
theorem c_stL (h : NW z σ r cnt ck t sz nx) (hl : LineOK r cnt l) (hf : ∀ p, p < l.length → σ.1 (z + 172) p = nI (l.getD p 0)) {q : Nat} (hq : q ≤ l.length) (h1 : ∀ p, p < q → ¬ agR r cnt (l.getD p 0) = 0) {k : bz_W → Option (Int32 × bz_W)} (fuel : Nat) : ∀ d p, p + d = q → f_X6_startFirstThatCan_L7 z (nI l.length) k (fuel + d) (nI p) σ = f_X6_startFirstThatCan_L7 z (nI l.length) k fuel (nI q) σ := by
  obtain ⟨hz, hL, hnm, hS, hI, hs0, hs6⟩ := id h
  have hlen := hl.len
  have hc := hI.1
  intro d
  induction d with
  | zero => intro p hp; rw [Nat.add_zero] at hp ⊢; rw [hp]
  | succ d ih =>
    intro p hp
    have hpl : p < l.length := by omega
    have hm := (hl.mem _).mp (getD_mem hpl)
    rw [← Nat.add_assoc, f_X6_startFirstThatCan_L7, if_neg (nI_ge hpl (by omega)), in_nI (by omega) (by omega), ck_n, hs6, nI_clamp (by omega), hf p hpl, in_nI (by omega) (by omega), ck_n, nI_clamp (by omega), hs0, hL.1, (hL.2.2.2.1 _ (by omega)).1, c_against hL hS hI hm.1, bd_n, if_neg (h1 p (by omega)), lt_n, nI_1]
    exact ih (p + 1) (by omega)
theorem c_poL (hl2 : ∀ p, p < l.length → l.getD p 0 < cnt) (hlen : l.length ≤ 8) {q : Nat} (hq : q ≤ l.length) {R : Nat → Int32} {k : bz_W → Option (Int32 × bz_W)} : ∀ fuel p (σ : bz_W), p ≤ q → q - p < fuel → NW z σ (plR R l p) cnt ck t sz nx → (∀ p, p < l.length → σ.1 (z + 172) p = nI (l.getD p 0)) → ∃ σ', f_X6_passOver_L2 z (nI q) k fuel (nI p) σ = k σ' ∧ Fr z σ σ' ∧ σ'.1 z 7 = σ.1 z 7 ∧ NW z σ' (plR R l q) cnt ck t sz nx := by
  intro fuel
  induction fuel with
  | zero => intro p σ hp hf; omega
  | succ f ih =>
    intro p σ hp hf h hfl
    obtain ⟨hz, hL, hnm, hS, hI, hs0, hs6⟩ := id h
    have hc := hI.1
    rw [f_X6_passOver_L2]
    by_cases e : p = q
    · subst e
      rw [if_pos (nI_le (Nat.le_refl _) (by omega))]
      exact ⟨σ, rfl, Fr.refl z σ, rfl, h⟩
    · have hpl : p < l.length := by omega
      have hx := hl2 p hpl
      obtain ⟨x, ex⟩ : ∃ x, x = l.getD p 0 := ⟨_, rfl⟩
      have hR := hS.2.2.2.2.2.1 x (by omega)
      have k6 : plR R l p (8 + 20 * x + 18) = σ.1 (z + 1 + 2 + 2 * x + 1) 6 := hR.2.2.2.2.2.2.2.2.2.2.2.2.1 6 (by omega)
      have en : plR R l (p + 1) = upd (plR R l p) (8 + 20 * x + 18) (plR R l p (8 + 20 * x + 18) + 1) := by rw [ex]; rfl
      rw [if_neg (nI_ge (by omega) (by omega)), in_nI (by omega) (by omega), ck_n, hs6, nI_clamp (by omega), hfl p hpl, ← ex, in_nI (by omega) (by omega), ck_n, nI_clamp (by omega), hs0, hL.1, (hL.2.2.2.1 x (by omega)).1, (hL.2.2.2.1 x (by omega)).2, show z + 1 + 3 + 2 * x = z + 1 + 2 + 2 * x + 1 by omega, ← k6, lt_n, lt_n, nI_1]
      have R1 := hR.acc (w := 6) (plR R l p (8 + 20 * x + 18) + 1) (by omega)
      obtain ⟨k1, k2, k3⟩ := h.motor (show x < cnt by omega) (σ' := bz_wi σ (z + 1 + 2 + 2 * x + 1) 6 (plR R l p (8 + 20 * x + 18) + 1)) (r' := plR R l (p + 1)) rfl (fun y q1 q2 => wi_o _ _ _ q2) (by rw [wi_o _ _ _ (by omega)]) (fun y hy => by rw [en, up_o _ _ (by omega)]) (by rw [en]; exact R1) (by
        rw [en]
        exact (hI.2.2.2.2.2.2.1 x (by omega)).congr fun w hw => up_o _ _ (by omega))
      obtain ⟨σ2, g1, g2, g3, g4⟩ := ih (p + 1) _ (by omega) (by omega) k3 (fun y hy => by rw [wi_o _ _ _ (by omega)]; exact hfl y hy)
      exact ⟨σ2, g1, k1.trans g2, g3.trans k2, g4⟩
theorem agR_0 {ck : Nat} (hI : IM r ck i) (h : agR r cnt i = 0) : vN (r (8 + 20 * i + 6)) ≤ vN (r (8 + 20 * i + 3)) := by
  obtain ⟨p, p1, p2⟩ := need_N hI
  obtain ⟨ra, rm, fa, li, ne, md, he, lo, sc, si, la, e0, e1, e2, e3, e4, e5, e6, e7, e8, e9, e10, b0, b1, b2, b3, b4, b5, b6, b7, b8, b9, b10, b11⟩ := hI
  have hc : needR r i ≤ credR r i := by
    unfold agR at h
    by_cases h7 : r (8 + 20 * i + 7) = 0
    · rw [if_pos h7] at h
      by_cases hn : needR r i ≤ credR r i
      · exact hn
      · rw [if_neg hn] at h
        exact absurd h (by decide)
    · rw [if_neg h7] at h
      exact absurd h (by decide)
  unfold credR at hc
  rw [p1, e3, e6, Int32.le_iff_toInt_le, pk_sub_toInt (by omega) (by omega), nI_toInt (by omega)] at hc
  rw [e3, e6, vN_nI (by omega), vN_nI (by omega)]
  omega
end SF
