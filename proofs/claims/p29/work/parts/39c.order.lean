/-! orders: notes, trips, checks, carrying out -/
def NW (z : Nat) (σ : bz_W) (r : Nat → Int32) (cnt ck t sz nx : Nat) : Prop := 0 < z ∧ LyS σ.2 (z + 1) ∧ NmS σ (z + 1) ∧ RS σ (z + 1) r cnt ck t sz nx ∧ IS r cnt ck t sz nx ∧ σ.2 z 0 = z + 1 ∧ σ.2 z 6 = z + 172
theorem NW.next {z : Nat} {σ σ' : bz_W} {r r' : Nat → Int32} {cnt ck t sz nx cnt' ck' t' sz' nx' : Nat} (h : NW z σ r cnt ck t sz nx) (hF : Fr z σ σ') (hS : RS σ' (z + 1) r' cnt' ck' t' sz' nx') (hI : IS r' cnt' ck' t' sz' nx') : NW z σ' r' cnt' ck' t' sz' nx' := by
  obtain ⟨hz, h1, h2, -, -, h3, h4⟩ := h
  refine ⟨hz, by rw [hF.1]; exact h1, fun i hi => by rw [hF.2.2.2 i hi]; exact h2 i hi, hS, hI, by rw [hF.1]; exact h3, by rw [hF.1]; exact h4⟩
def noteR (r : Nat → Int32) (i : Nat) (x : Int32) : Nat → Int32 := upd (upd (upd (upd r (216 + 3 * (vN (r 6) % 10)) (r 1)) (216 + 3 * (vN (r 6) % 10) + 1) (nI i)) (216 + 3 * (vN (r 6) % 10) + 2) x) 6 (r 6 + 1)
theorem noteR_o {r : Nat → Int32} {i : Nat} {x : Int32} {y : Nat} (h : y ≠ 6) (h2 : y < 216 ∨ 246 ≤ y) : noteR r i x y = r y := by
  have : vN (r 6) % 10 < 10 := Nat.mod_lt _ (by omega)
  unfold noteR
  rw [up_o _ _ h, up_o _ _ (by omega), up_o _ _ (by omega), up_o _ _ (by omega)]
theorem up_comm (f : Nat → Int32) {k j : Nat} (v w : Int32) (h : j ≠ k) : upd (upd f k v) j w = upd (upd f j w) k v := by
  funext y
  by_cases h1 : y = k
  · subst h1; rw [up_o _ _ (Ne.symm h), up_s, up_s]
  · by_cases h2 : y = j
    · subst h2; rw [up_s, up_o _ _ h1, up_s]
    · rw [up_o _ _ h2, up_o _ _ h1, up_o _ _ h1, up_o _ _ h2]
theorem up_id (f : Nat → Int32) (k : Nat) : upd f k (f k) = f := by
  funext y
  by_cases h : y = k
  · subst h; rw [up_s]
  · rw [up_o _ _ h]
theorem noteR_up (r : Nat → Int32) (i : Nat) (x : Int32) {y : Nat} (v : Int32) (h1 : 8 ≤ y) (h2 : y < 216) : noteR (upd r y v) i x = upd (noteR r i x) y v := by
  have hm : vN (r 6) % 10 < 10 := Nat.mod_lt _ (by omega)
  unfold noteR
  rw [up_o _ _ (show 6 ≠ y by omega), up_o _ _ (show 1 ≠ y by omega)]
  rw [up_comm _ _ _ (show y ≠ 6 by omega), up_comm _ _ _ (show y ≠ 216 + 3 * (vN (r 6) % 10) + 2 by omega), up_comm _ _ _ (show y ≠ 216 + 3 * (vN (r 6) % 10) + 1 by omega), up_comm _ _ _ (show y ≠ 216 + 3 * (vN (r 6) % 10) by omega)]
section OR
variable {σ τ : bz_W} {a q i M N cnt ck t sz nx : Nat} {r : Nat → Int32}
theorem m_note (hN : τ.2 M 0 = N) (h6 : r 6 = nI t) (ht : t < 2 ^ 30) (x : Int32) : f_X7_note (bz_wb τ N r) M (nI i) x = some (0, bz_wb τ N (noteR r i x)) := by
  have hm : t % 10 < 10 := Nat.mod_lt _ (by omega)
  obtain ⟨m, em⟩ : ∃ m, m = t % 10 := ⟨_, rfl⟩
  unfold f_X7_note noteR
  simp only [lt_n, wb_2, hN, wb_s, h6]
  rw [rem10 (by omega), vN_nI (by omega), ← em]
  rw [← em] at hm
  have e1 : (216 : Int32) + 3 * nI m = nI (216 + 3 * m) := by
    show nI 216 + nI 3 * nI m = _
    rw [pk_mul, nI_add]
  have e2 : nI (216 + 3 * m) + 1 = nI (216 + 3 * m + 1) := nI_1 _
  have e3 : nI (216 + 3 * m) + 2 = nI (216 + 3 * m + 2) := nI_add _ 2
  simp only [e1, e2, e3, in_nI (show 216 + 3 * m < 246 by omega) (show 216 + 3 * m < 2 ^ 31 by omega), in_nI (show 216 + 3 * m + 1 < 246 by omega) (show 216 + 3 * m + 1 < 2 ^ 31 by omega), in_nI (show 216 + 3 * m + 2 < 246 by omega) (show 216 + 3 * m + 2 < 2 ^ 31 by omega), ck_n, nI_clamp (show 216 + 3 * m < 2 ^ 31 by omega), nI_clamp (show 216 + 3 * m + 1 < 2 ^ 31 by omega), nI_clamp (show 216 + 3 * m + 2 < 2 ^ 31 by omega), wi_wb, wb_s, wi_2, wb_2, hN]
  rw [up_o _ _ (show 6 ≠ 216 + 3 * m + 2 by omega), up_o _ _ (show 6 ≠ 216 + 3 * m + 1 by omega), up_o _ _ (show 6 ≠ 216 + 3 * m by omega), h6]
theorem c_note (hL : LyS σ.2 a) (hq : σ.1 q 0 = nI i) (hS : RS σ a r cnt ck t sz nx) (hc : cnt ≤ 8) (hz : sz ≤ 10) (ht : t < 2 ^ 30) {x : Int32} (hx : ¬ x = 0) : ∃ σ', f_X3_note σ a q x = some (0, σ') ∧ σ'.2 = σ.2 ∧ (∀ b, (b < a + 23 ∨ a + 26 < b) → σ'.1 b = σ.1 b) ∧ RS σ' a (noteR r i x) cnt ck (t + 1) sz nx := by
  obtain ⟨⟨s0, r0⟩, ⟨s4, r1⟩, ⟨r2, r3, r5⟩, ⟨s23, r6⟩, ⟨s18, s18', r4⟩, hRM, hit, hev⟩ := hS
  have hm : t % 10 < 10 := Nat.mod_lt _ (by omega)
  obtain ⟨m, em⟩ : ∃ m, m = t % 10 := ⟨_, rfl⟩
  have ev : vN (r 6) % 10 = m := by rw [r6, vN_nI (by omega), em]
  unfold f_X3_note f_X0_add
  rw [if_neg hx, hL.2.2.1, s23, rmod10 (by omega), ← em]
  rw [← em] at hm
  simp only [lt_n, in_nI hm (show m < 2 ^ 31 by omega), ck_n, nI_clamp (show m < 2 ^ 31 by omega), wi_2, hL.2.2.2.2.2.1, hL.2.2.2.2.2.2.1, hL.2.2.2.2.2.2.2, bd_n]
  refine ⟨_, rfl, rfl, fun b hb => ?_, ?_⟩
  · rw [wi_o _ _ _ (by omega), wi_o _ _ _ (by omega), wi_o _ _ _ (by omega), wi_o _ _ _ (by omega)]
  · have ex : ∀ b, (b < a + 23 ∨ a + 26 < b) → (bz_wi (bz_wi (bz_wi (bz_wi σ (a + 24) m (σ.1 a 4)) (a + 25) m (σ.1 q 0)) (a + 26) m x) (a + 23) 3 ((bz_wi (bz_wi (bz_wi σ (a + 24) m (σ.1 a 4)) (a + 25) m (σ.1 q 0)) (a + 26) m x).1 (a + 23) 3 + 1)).1 b = σ.1 b := fun b hb => by
      rw [wi_o _ _ _ (by omega), wi_o _ _ _ (by omega), wi_o _ _ _ (by omega), wi_o _ _ _ (by omega)]
    unfold RS
    rw [ex a (by omega), ex (a + 18) (by omega), ex (a + 19) (by omega), ex (a + 20) (by omega), ex (a + 21) (by omega), ex (a + 22) (by omega), noteR_o (y := 0) (by omega) (by omega), noteR_o (y := 1) (by omega) (by omega), noteR_o (y := 2) (by omega) (by omega), noteR_o (y := 3) (by omega) (by omega), noteR_o (y := 5) (by omega) (by omega), noteR_o (y := 4) (by omega) (by omega)]
    refine ⟨⟨s0, r0⟩, ⟨s4, r1⟩, ⟨r2, r3, r5⟩, ⟨?_, ?_⟩, ⟨s18, s18', r4⟩, fun j hj => ?_, fun j hj => ?_, fun j hj => ?_⟩
    · rw [wi_ss, wi_o _ _ _ (by omega), wi_o _ _ _ (by omega), wi_o _ _ _ (by omega), s23, nI_1]
    · unfold noteR
      rw [up_s, r6, nI_1]
    · exact (hRM j hj).keep (ex _ (by omega)) (ex _ (by omega)) fun w hw => noteR_o (by omega) (by omega)
    · rw [noteR_o (by omega) (by omega), noteR_o (by omega) (by omega), noteR_o (by omega) (by omega), noteR_o (by omega) (by omega)]
      exact hit j hj
    · obtain ⟨v0, v1, v2⟩ := hev j hj
      unfold noteR
      rw [ev, wi_o _ _ _ (show a + 24 ≠ a + 23 by omega), wi_o _ _ _ (show a + 24 ≠ a + 26 by omega), wi_o _ _ _ (show a + 24 ≠ a + 25 by omega), wi_s, wi_o _ _ _ (show a + 25 ≠ a + 23 by omega), wi_o _ _ _ (show a + 25 ≠ a + 26 by omega), wi_s, wi_o _ _ _ (show a + 25 ≠ a + 24 by omega), wi_o _ _ _ (show a + 26 ≠ a + 23 by omega), wi_s, wi_o _ _ _ (show a + 26 ≠ a + 25 by omega), wi_o _ _ _ (show a + 26 ≠ a + 24 by omega)]
      by_cases e : j = m
      · subst e
        rw [up_o _ _ (show 216 + 3 * j ≠ 6 by omega), up_o _ _ (show 216 + 3 * j ≠ 216 + 3 * j + 2 by omega), up_o _ _ (show 216 + 3 * j ≠ 216 + 3 * j + 1 by omega), up_s, up_o _ _ (show 216 + 3 * j + 1 ≠ 6 by omega), up_o _ _ (show 216 + 3 * j + 1 ≠ 216 + 3 * j + 2 by omega), up_s, up_o _ _ (show 216 + 3 * j + 2 ≠ 6 by omega), up_s, up_s, up_s, up_s, hq, r1, s4]
        exact ⟨rfl, rfl, rfl⟩
      · rw [up_o _ _ (show 216 + 3 * j ≠ 6 by omega), up_o _ _ (show 216 + 3 * j ≠ 216 + 3 * m + 2 by omega), up_o _ _ (show 216 + 3 * j ≠ 216 + 3 * m + 1 by omega), up_o _ _ (show 216 + 3 * j ≠ 216 + 3 * m by omega), up_o _ _ (show 216 + 3 * j + 1 ≠ 6 by omega), up_o _ _ (show 216 + 3 * j + 1 ≠ 216 + 3 * m + 2 by omega), up_o _ _ (show 216 + 3 * j + 1 ≠ 216 + 3 * m + 1 by omega), up_o _ _ (show 216 + 3 * j + 1 ≠ 216 + 3 * m by omega), up_o _ _ (show 216 + 3 * j + 2 ≠ 6 by omega), up_o _ _ (show 216 + 3 * j + 2 ≠ 216 + 3 * m + 2 by omega), up_o _ _ (show 216 + 3 * j + 2 ≠ 216 + 3 * m + 1 by omega), up_o _ _ (show 216 + 3 * j + 2 ≠ 216 + 3 * m by omega), up_o _ _ e, up_o _ _ e, up_o _ _ e]
        exact ⟨v0, v1, v2⟩
theorem IS.note (h : IS r cnt ck t sz nx) (ht : t + 1 < 2 ^ 30) (x : Int32) : IS (noteR r i x) cnt ck (t + 1) sz nx := by
  obtain ⟨hc, hck, -, hsz, hnx, hfan, hIM, hIT⟩ := h
  exact ⟨hc, hck, ht, hsz, hnx, by rw [noteR_o (by omega) (by omega)]; exact hfan, fun j hj => (hIM j hj).congr fun w hw => noteR_o (by omega) (by omega), fun j hj => (hIT j hj).congr fun w hw => noteR_o (by omega) (by omega)⟩
def tripR (r : Nat → Int32) (i : Nat) (w : Int32) : Nat → Int32 := upd (upd (upd r (8 + 20 * i + 5) 4) (8 + 20 * i + 11) w) (8 + 20 * i + 15) (upd (upd r (8 + 20 * i + 5) 4) (8 + 20 * i + 11) w (8 + 20 * i + 15) + 1)
theorem tripR_o {w : Int32} {y : Nat} (h : y ≠ 8 + 20 * i + 5) (h2 : y ≠ 8 + 20 * i + 11) (h3 : y ≠ 8 + 20 * i + 15) : tripR r i w y = r y := by
  unfold tripR
  rw [up_o _ _ h3, up_o _ _ h2, up_o _ _ h]
theorem m_trip (hN : τ.2 M 0 = N) (hi : i < 8) (h6 : r 6 = nI t) (ht : t < 2 ^ 30) (w : Int32) : f_X7_trip (bz_wb τ N r) M (nI i) w = some (0, bz_wb τ N (noteR (tripR r i w) i (if w = 2 then 4 else 5))) := by
  unfold f_X7_trip
  simp only [m_put5 hN hi, m_put11 hN hi, m_more15 hN hi, bd_n]
  have h6' : tripR r i w 6 = nI t := by rw [tripR_o (by omega) (by omega) (by omega)]; exact h6
  have e := fun x => m_note (τ := τ) (M := M) (N := N) (i := i) hN h6' ht x
  unfold tripR at e ⊢
  by_cases h2 : w = 2
  · rw [if_pos h2, if_pos h2, e, bd_n]
  · rw [if_neg h2, if_neg h2, e, bd_n]
theorem c_trip (hq : σ.2 q 1 = q + 1) (h : RM σ q r i) (w : Int32) : ∃ σ', f_X2_trip σ q w = some (if w = 2 then 4 else 5, σ') ∧ σ'.2 = σ.2 ∧ (∀ b, b ≠ q → b ≠ q + 1 → σ'.1 b = σ.1 b) ∧ σ'.1 q 0 = σ.1 q 0 ∧ RM σ' q (tripR r i w) i := by
  have e1 := h.set (F := 8) (w := 5) 4 (by omega)
  have e2 := e1.set (F := 13) (w := 11) w (by omega)
  have e3 := e2.acc (w := 3) (upd (upd r (8 + 20 * i + 5) 4) (8 + 20 * i + 11) w (8 + 20 * i + 15) + 1) (by omega)
  have n1 : q + 1 ≠ q := by omega
  have n2 : q ≠ q + 1 := by omega
  have k3 := h.2.2.2.2.2.2.2.2.2.2.2.2.1 3 (by omega)
  unfold f_X2_trip
  simp only [lt_n, wi_2, hq]
  have ev : (bz_wi (bz_wi σ q 8 4) q 13 w).1 (q + 1) 3 + 1 = upd (upd r (8 + 20 * i + 5) 4) (8 + 20 * i + 11) w (8 + 20 * i + 15) + 1 := by
    rw [wi_o _ _ _ n1, wi_o _ _ _ n1, up_o _ _ (by omega), up_o _ _ (by omega), ← k3]
  rw [ev]
  by_cases h2 : w = 2
  · rw [if_pos h2, if_pos h2]
    exact ⟨_, rfl, rfl, fun b h1 h2 => by rw [wi_o _ _ _ h2, wi_o _ _ _ h1, wi_o _ _ _ h1], by rw [wi_o _ _ _ n2, wi_so _ _ (by omega), wi_so _ _ (by omega)], e3⟩
  · rw [if_neg h2, if_neg h2]
    exact ⟨_, rfl, rfl, fun b h1 h2 => by rw [wi_o _ _ _ h2, wi_o _ _ _ h1, wi_o _ _ _ h1], by rw [wi_o _ _ _ n2, wi_so _ _ (by omega), wi_so _ _ (by omega)], e3⟩
end OR
