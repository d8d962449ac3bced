/-! the first that can start, over the row's facts alone -/
section ST
variable {τ : bz_W} {z i cnt ck t : Nat} {r : Nat → Int32} {l : List Nat}
theorem r_wat (h : RF r cnt ck t) (hN : τ.2 (z + 173) 0 = z + 174) (hl : LineOK r cnt l) {p : Nat} (hp : p < 2 ^ 31) : f_X7_waitingAt (bz_wb τ (z + 174) r) (z + 173) (nI p) = some (wv l p, bz_wb τ (z + 174) r) := by
  unfold wv
  by_cases hpl : p < l.length
  · have hm := (hl.mem _).mp (getD_mem hpl)
    rw [if_pos hpl]
    exact m_watY hN h.1 h.2.2.2.1 h.2.1 h.2.2.2.2.1 h.2.2.2.2.2.2.2 hp hm.1 hm.2 (hl.place hpl) (fun x hx hwx e => by
      obtain ⟨q, q1, q2⟩ := mem_getD ((hl.mem x).mpr ⟨by omega, hwx⟩)
      have := hl.place q1
      rw [q2, e] at this
      subst this
      omega)
  · rw [if_neg hpl]
    exact m_watN hN h.1 h.2.2.2.1 h.2.1 h.2.2.2.2.1 h.2.2.2.2.2.2.2 hp (fun x hx hwx e => by
      obtain ⟨q, q1, q2⟩ := mem_getD ((hl.mem x).mpr ⟨by omega, hwx⟩)
      have := hl.place q1
      rw [q2, e] at this
      omega)
theorem r_stL (h : RF r cnt ck t) (hN : τ.2 (z + 173) 0 = z + 174) (hl : LineOK r cnt l) {q : Nat} (hq : q ≤ l.length) (h1 : ∀ p, p < q → ¬ agR r cnt (l.getD p 0) = 0) (h2 : q < l.length → agR r cnt (l.getD q 0) = 0) {k : Int32 → Int32 → bz_W → Option (Int32 × bz_W)} : ∀ fuel p, p ≤ q → q - p < fuel → f_X7_startOne_L8 (z + 173) k fuel (nI p) (wv l p) (bz_wb τ (z + 174) r) = k (nI q) (wv l q) (bz_wb τ (z + 174) r) := by
  have hlen := hl.len
  have hc := h.2.2.2.1
  intro fuel
  induction fuel with
  | zero => intro p hp hf; omega
  | succ f ih =>
    intro p hp hf
    rw [f_X7_startOne_L8]
    by_cases hpl : p < l.length
    · have ev : wv l p = nI (l.getD p 0) := by unfold wv; rw [if_pos hpl]
      have hm := (hl.mem _).mp (getD_mem hpl)
      have hne : ¬ nI (l.getD p 0) = -4 := fun e => by
        have := nI_pos (n := l.getD p 0) (by omega)
        rw [e] at this
        exact this (by decide)
      rw [ev, if_neg hne, m_against hN h.1 hc h.2.2.2.2.2.2.2 hm.1, bd_n]
      by_cases e : p = q
      · subst e
        rw [if_pos (h2 hpl), ev]
      · rw [if_neg (h1 p (by omega)), lt_n, nI_1, r_wat h hN hl (by omega), bd_n]
        exact ih (p + 1) (by omega) (by omega)
    · have e : p = q := by omega
      subst e
      have ev : wv l p = -4 := by unfold wv; rw [if_neg hpl]
      rw [ev, if_pos rfl]
theorem r_piL (h : RF r cnt ck t) (hN : τ.2 (z + 173) 0 = z + 174) {q : Nat} (hq : q ≤ 8) (x2 : Int32) {k : bz_W → Option (Int32 × bz_W)} : ∀ fuel j, j ≤ cnt → cnt - j < fuel → f_X7_startOne_L44 (z + 173) (nI q) x2 k fuel (nI j) (bz_wb τ (z + 174) (piR r (fun x => wtB r x && decide (pcnt r x cnt < q)) j)) = k (bz_wb τ (z + 174) (piR r (fun x => wtB r x && decide (pcnt r x cnt < q)) cnt)) := by
  have hc := h.2.2.2.1
  intro fuel
  induction fuel with
  | zero => intro j hj hf; omega
  | succ f ih =>
    intro j hj hf
    obtain ⟨r', hr'⟩ : ∃ r', r' = piR r (fun x => wtB r x && decide (pcnt r x cnt < q)) j := ⟨_, rfl⟩
    have ho : ∀ y, (∀ x, y ≠ 8 + 20 * x + 18) → r' y = r y := fun y hy => by rw [hr']; exact piR_o j fun x hx => hy x
    have h0 : r' 0 = nI cnt := by rw [ho 0 (fun x => by omega)]; exact h.1
    have h1 : r' 1 = nI ck := by rw [ho 1 (fun x => by omega)]; exact h.2.1
    have hIM : ∀ x, x < cnt → IM r' ck x := fun x hx => (h.2.2.2.2.2.2.2 x hx).congr fun w hw => ho _ (fun x => by omega)
    rw [f_X7_startOne_L44, ← hr', wb_2, hN, wb_s, h0]
    by_cases e : j = cnt
    · subst e
      rw [if_pos (nI_le (Nat.le_refl _) (by omega)), hr']
    · have hjc : j < cnt := by omega
      have hj8 : j < 8 := by omega
      have hpl := pcnt_le r j cnt
      have hnext := ih (j + 1) (by omega) (by omega)
      have eS : piR r (fun x => wtB r x && decide (pcnt r x cnt < q)) (j + 1) = if (wtB r j && decide (pcnt r j cnt < q)) = true then upd r' (8 + 20 * j + 18) (r' (8 + 20 * j + 18) + 1) else r' := by rw [hr']; rfl
      rw [eS] at hnext
      rw [if_neg (nI_ge (by omega) (by omega)), m_waits hN hj8, bd_n, lt_n, ho (8 + 20 * j + 5) (fun x => by omega), m_placeOf hN h0 hc h1 h.2.2.2.2.1 hIM hjc, bd_n, pcnt_congr ho]
      by_cases hw : r (8 + 20 * j + 5) = 1
      · have hwt : wtB r j = true := by simp [wtB, hw]
        rw [if_pos hw, if_neg (by decide)]
        by_cases hp : pcnt r j cnt < q
        · rw [if_neg (nI_ge hp (by omega)), m_more18 hN hj8, bd_n]
          dsimp only
          rw [lt_n, nI_1]
          have : (wtB r j && decide (pcnt r j cnt < q)) = true := by simp [hwt, hp]
          rw [if_pos this] at hnext
          exact hnext
        · rw [if_pos (nI_le (by omega) (by omega))]
          dsimp only
          rw [lt_n, nI_1]
          have : ¬ (wtB r j && decide (pcnt r j cnt < q)) = true := by simp [hp]
          rw [if_neg this] at hnext
          exact hnext
      · have hwt : ¬ wtB r j = true := by simp [wtB, hw]
        rw [if_neg hw, if_pos rfl]
        dsimp only
        rw [lt_n, nI_1]
        have : ¬ (wtB r j && decide (pcnt r j cnt < q)) = true := by simp [hwt]
        rw [if_neg this] at hnext
        exact hnext
end ST
