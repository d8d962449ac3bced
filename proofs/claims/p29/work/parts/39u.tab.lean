/-! readTimetable: the new table, and the call -/
section TAB
variable {σ σ' : bz_W} {a cnt ck t sz nx n : Nat} {r D : Nat → Int32}
theorem tabR_0 (r D : Nat → Int32) : tabR r D 0 = r := by
  funext y
  exact tabR_out (by omega)
theorem tabR_t {j : Nat} (h : j < n) (h1 : r 1 = nI ck) : tabR r D (4 * n) (168 + 4 * j) = nI ck + D (4 * j) ∧ tabR r D (4 * n) (168 + 4 * j + 1) = D (4 * j + 1) ∧ tabR r D (4 * n) (168 + 4 * j + 2) = D (4 * j + 2) ∧ tabR r D (4 * n) (168 + 4 * j + 3) = D (4 * j + 3) := by
  refine ⟨?_, ?_, ?_, ?_⟩
  · rw [tabR_in (by omega), if_pos (by omega), h1, Int32.add_comm]
  · rw [Nat.add_assoc, tabR_in (by omega), if_neg (by omega), Int32.add_zero]
  · rw [Nat.add_assoc, tabR_in (by omega), if_neg (by omega), Int32.add_zero]
  · rw [Nat.add_assoc, tabR_in (by omega), if_neg (by omega), Int32.add_zero]
theorem RS.table (h : RS σ a r cnt ck t sz nx) (hc : cnt ≤ 8) (hn : n ≤ 10) (e1 : ∀ x, (x < a + 18 ∨ a + 22 < x) → σ'.1 x = σ.1 x) (e4 : σ'.1 (a + 18) 4 = nI n ∧ σ'.1 (a + 18) 5 = nI 0) (ej : ∀ j, j < n → σ'.1 (a + 19) j = nI ck + D (4 * j) ∧ σ'.1 (a + 20) j = D (4 * j + 1) ∧ σ'.1 (a + 21) j = D (4 * j + 2) ∧ σ'.1 (a + 22) j = D (4 * j + 3)) : RS σ' a (tabR (upd r 4 (nI n)) D (4 * n)) cnt ck t n 0 := by
  obtain ⟨⟨s0, r0⟩, ⟨s4, r1⟩, ⟨r2, r3, r5⟩, ⟨s23, r6⟩, -, hRM, -, hev⟩ := h
  have hy : ∀ y, (y < 168 ∨ 208 ≤ y) → y ≠ 4 → tabR (upd r 4 (nI n)) D (4 * n) y = r y := fun y h1 h2 => by rw [tabR_out (by omega), up_o _ _ h2]
  have hr1 : upd r 4 (nI n) 1 = nI ck := by rw [up_o _ _ (by omega), r1]
  unfold RS
  rw [e1 a (by omega), e1 (a + 23) (by omega), e1 (a + 24) (by omega), e1 (a + 25) (by omega), e1 (a + 26) (by omega)]
  refine ⟨⟨s0, by rw [hy _ (by omega) (by omega)]; exact r0⟩, ⟨s4, by rw [hy _ (by omega) (by omega)]; exact r1⟩, ⟨by rw [hy _ (by omega) (by omega)]; exact r2, by rw [hy _ (by omega) (by omega)]; exact r3, by rw [hy _ (by omega) (by omega)]; exact r5⟩, ⟨s23, by rw [hy _ (by omega) (by omega)]; exact r6⟩, ⟨e4.1, e4.2, by rw [tabR_out (by omega), up_s, Nat.sub_zero]⟩, fun i hi => (hRM i hi).keep (e1 _ (by omega)) (e1 _ (by omega)) fun w hw => hy _ (by omega) (by omega), fun j hj => ?_, fun j hj => ?_⟩
  · obtain ⟨t0, t1, t2, t3⟩ := tabR_t (D := D) (show j < n by omega) hr1
    obtain ⟨q0, q1, q2, q3⟩ := ej j (by omega)
    rw [Nat.zero_add, t0, t1, t2, t3, q0, q1, q2, q3]
    exact ⟨rfl, rfl, rfl, rfl⟩
  · rw [hy _ (by omega) (by omega), hy _ (by omega) (by omega), hy _ (by omega) (by omega)]
    exact hev j hj
theorem IS.table (h : IS r cnt ck t sz nx) (h1 : r 1 = nI ck) (hn : n ≤ 10) (hD : ∀ j, j < n → ItD D j) : IS (tabR (upd r 4 (nI n)) D (4 * n)) cnt ck t n 0 := by
  obtain ⟨hc, hck, ht, -, -, hfan, hIM, -⟩ := h
  have hy : ∀ y, (y < 168 ∨ 208 ≤ y) → y ≠ 4 → tabR (upd r 4 (nI n)) D (4 * n) y = r y := fun y h1 h2 => by rw [tabR_out (by omega), up_o _ _ h2]
  have hr1 : upd r 4 (nI n) 1 = nI ck := by rw [up_o _ _ (by omega), h1]
  refine ⟨hc, hck, ht, hn, Nat.zero_le _, by rw [hy _ (by omega) (by omega)]; exact hfan, fun j hj => (hIM j hj).congr fun w hw => hy _ (by omega) (by omega), fun j hj => ?_⟩
  obtain ⟨-, t1, t2, t3⟩ := tabR_t (D := D) (show j < n by omega) hr1
  unfold IT
  rw [t1, t2, t3]
  exact hD j (by omega)
end TAB
theorem Rel.table {z C T cnt ck t sz nx n : Nat} {σ σ' τ : bz_W} (h : Rel z C T σ τ) (d2 : σ'.2 = σ.2) (d3 : ∀ x, (x < z + 1 + 18 ∨ z + 1 + 18 + 4 < x) → σ'.1 x = σ.1 x) (hS : RS σ (z + 1) (τ.1 (z + 174)) cnt ck t sz nx) (hI : IS (τ.1 (z + 174)) cnt ck t sz nx) (hck : ck ≤ C) (htt : t ≤ T) (hr : σ.1 z 7 = τ.1 (z + 173) 5) (hn : n ≤ 10) (e4 : σ'.1 (z + 1 + 18) 4 = nI n ∧ σ'.1 (z + 1 + 18) 5 = nI 0) (ej : ∀ j, j < n → (σ'.1 (z + 1 + 19) j = nI ck + τ.1 (z + 178) (4 * j) ∧ σ'.1 (z + 1 + 20) j = τ.1 (z + 178) (4 * j + 1) ∧ σ'.1 (z + 1 + 21) j = τ.1 (z + 178) (4 * j + 2) ∧ σ'.1 (z + 1 + 22) j = τ.1 (z + 178) (4 * j + 3)) ∧ ItD (τ.1 (z + 178)) j) : Rel z C T σ' (bz_wb (bz_wi τ (z + 174) 4 (nI n)) (z + 174) (tabR (upd (τ.1 (z + 174)) 4 (nI n)) (τ.1 (z + 178)) (4 * n))) := by
  refine Rel.now h ⟨d2, fun x q1 q2 => d3 x (by omega), fun w hw => by rw [d3 z (by omega)], fun i hi => by rw [d3 _ (by omega)]⟩ ⟨rfl, fun x q1 q2 => by rw [wb_o _ _ q2, wi_o _ _ _ q2], fun w hw => by rw [wb_o _ _ (by omega), wi_o _ _ _ (by omega)]⟩ ⟨cnt, ck, t, n, 0, ?_, ?_, hck, htt⟩ ?_ (Nat.le_refl _) (Nat.le_refl _)
  · rw [wb_s]
    exact hS.table hI.1 hn (fun x hx => d3 x (by omega)) e4 fun j hj => (ej j hj).1
  · rw [wb_s]
    exact hI.table hS.2.1.2 hn fun j hj => (ej j hj).2
  · rw [d3 z (by omega), wb_o _ _ (by omega), wi_o _ _ _ (by omega)]
    exact hr
