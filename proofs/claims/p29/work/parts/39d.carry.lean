/-! carrying an order out; checking it -/
section CO
variable {σ τ : bz_W} {z i cnt ck t sz nx : Nat} {r : Nat → Int32}
theorem NW.motor (h : NW z σ r cnt ck t sz nx) (hi : i < cnt) {σ' : bz_W} {r' : Nat → Int32} (e0 : σ'.2 = σ.2) (e1 : ∀ x, x ≠ z + 1 + 2 + 2 * i → x ≠ z + 1 + 2 + 2 * i + 1 → σ'.1 x = σ.1 x) (en : σ'.1 (z + 1 + 2 + 2 * i) 0 = σ.1 (z + 1 + 2 + 2 * i) 0) (e2 : ∀ y, (y < 8 + 20 * i ∨ 8 + 20 * i + 20 ≤ y) → r' y = r y) (hR : RM σ' (z + 1 + 2 + 2 * i) r' i) (hI : IM r' ck i) : Fr z σ σ' ∧ σ'.1 z 7 = σ.1 z 7 ∧ NW z σ' r' cnt ck t sz nx := by
  have hc := h.2.2.2.2.1.1
  have hF : Fr z σ σ' := by
    refine ⟨e0, fun x h1 h2 => e1 x (by omega) (by omega), fun w hw => by rw [e1 z (by omega) (by omega)], fun j hj => ?_⟩
    by_cases e : j = i
    · subst e; exact en
    · rw [e1 _ (by omega) (by omega)]
  exact ⟨hF, by rw [e1 z (by omega) (by omega)], h.next hF (h.2.2.2.1.mot1 hc (by omega) e1 e2 hR) (h.2.2.2.2.1.mot1 (by omega) e2 hI)⟩
theorem NW.noted (h : NW z σ r cnt ck t sz nx) (hi : i < 8) (ht : t + 1 < 2 ^ 30) {x : Int32} (hx : ¬ x = 0) : ∃ σ', f_X3_note σ (z + 1) (z + 1 + 2 + 2 * i) x = some (0, σ') ∧ Fr z σ σ' ∧ σ'.1 z 7 = σ.1 z 7 ∧ NW z σ' (noteR r i x) cnt ck (t + 1) sz nx ∧ ∀ b, (b < z + 24 ∨ z + 27 < b) → σ'.1 b = σ.1 b := by
  obtain ⟨hz, h1, h2, h3, h4, h5, h6⟩ := id h
  obtain ⟨σ', g1, g2, g3, g4⟩ := c_note h1 (h2 i hi) h3 h4.1 h4.2.2.2.1 h4.2.2.1 hx
  have hF : Fr z σ σ' := ⟨g2, fun b q1 q2 => g3 b (by omega), fun w hw => by rw [g3 z (by omega)], fun j hj => by rw [g3 _ (by omega)]⟩
  exact ⟨σ', g1, hF, by rw [g3 z (by omega)], h.next hF g4 (h4.note ht x), fun b hb => g3 b (by omega)⟩
theorem NW.find (h : NW z σ r cnt ck t sz nx) (hi : i < cnt) : f_X3_find σ (z + 1) (nI i) = some (z + 1 + 2 + 2 * i, σ) := c_findY h.2.1 h.2.2.2.2.1.1 h.2.2.2.1.1.1 hi
/-- the result of an order carried out -/
def CO (z : Nat) (σ τ : bz_W) (r : Nat → Int32) (cnt ck t sz nx : Nat) (x1 x2 x3 y3 v : Int32) (P : (Nat → Int32) → Prop) : Prop := ∃ σ' r' t', f_X6_carryOut σ z x1 x2 x3 = some (v, σ') ∧ f_X7_carryOut (bz_wb τ (z + 174) r) (z + 173) x1 x2 y3 = some (0, bz_wb τ (z + 174) r') ∧ Fr z σ σ' ∧ σ'.1 z 7 = σ.1 z 7 ∧ NW z σ' r' cnt ck t' sz nx ∧ t' ≤ t + 1 ∧ P r'
theorem co0 (h : NW z σ r cnt ck t sz nx) (hN : τ.2 (z + 173) 0 = z + 174) (hi : i < cnt) (x3 y3 : Int32) : CO z σ τ r cnt ck t sz nx 0 (nI i) x3 y3 (r (8 + 20 * i + 5)) (fun r' => r' (8 + 20 * i + 5) = 1) := by
  have hi8 : i < 8 := by have := h.2.2.2.2.1.1; omega
  obtain ⟨hz, h1, h2, h3, h4, h5, h6⟩ := id h
  have hR := h3.2.2.2.2.2.1 i hi
  unfold CO f_X6_carryOut f_X7_carryOut
  rw [if_neg (show ¬ (0 : Int32) = 4 by decide), h5, h.find hi, bd_n, if_neg (q_ne z i), if_pos rfl, lt_n, if_pos rfl, m_put5 hN hi8, bd_n, wb_2, hN, wb_s, m_put9 hN hi8, bd_n, up_o _ _ (show 1 ≠ 8 + 20 * i + 5 by omega), h5, h3.2.1.1, h3.2.1.2]
  unfold f_X2_change
  rw [lt_n, lt_n, bd_n, wi_so _ _ (show 8 ≠ 12 by omega), ← hR.2.2.2.2.2.1]
  have R1 := (hR.set (F := 12) (w := 9) (nI ck) (by omega)).set (F := 8) (w := 5) 1 (by omega)
  rw [up_comm _ _ _ (show 8 + 20 * i + 5 ≠ 8 + 20 * i + 9 by omega)] at R1
  obtain ⟨k1, k2, k3⟩ := h.motor hi (σ' := bz_wi (bz_wi σ (z + 1 + 2 + 2 * i) 12 (nI ck)) (z + 1 + 2 + 2 * i) 8 1) rfl (fun x q1 q2 => by rw [wi_o _ _ _ q1, wi_o _ _ _ q1]) (by rw [wi_so _ _ (by omega), wi_so _ _ (by omega)]) (fun y hy => by rw [up_o _ _ (by omega), up_o _ _ (by omega)]) R1 (by
    obtain ⟨ra, rm, fa, li, ne, md, he, lo, sc, si, la, e0, e1, e2, e3, e4, e5, e6, e7, e8, e9, e10, bb⟩ := h4.2.2.2.2.2.2.1 i hi
    refine ⟨ra, rm, fa, li, ne, 1, he, lo, sc, ck, la, ?_, ?_, ?_, ?_, ?_, ?_, ?_, ?_, ?_, ?_, ?_, by omega⟩
    all_goals first | (rw [up_o _ _ (by omega), up_o _ _ (by omega)]; assumption) | (rw [up_o _ _ (by omega), up_s]; rfl) | rw [up_s])
  exact ⟨_, _, t, rfl, rfl, k1, k2, k3, by omega, by
    show upd (upd r (8 + 20 * i + 5) 1) (8 + 20 * i + 9) (nI ck) (8 + 20 * i + 5) = 1
    rw [up_o _ _ (by omega), up_s]⟩
theorem co13 (h : NW z σ r cnt ck t sz nx) (hN : τ.2 (z + 173) 0 = z + 174) (hi : i < cnt) (ht : t + 1 < 2 ^ 30) {w : Int32} (hw : ¬ w = 0) : ∃ σ' σ2, f_X3_note σ (z + 1) (z + 1 + 2 + 2 * i) w = some (0, σ') ∧ f_X2_change σ' (z + 1 + 2 + 2 * i) 0 = some (r (8 + 20 * i + 5), σ2) ∧ bd_ (f_X7_put (bz_wb τ (z + 174) r) (z + 173) (nI i) 5 0) (fun _ σ9 => bd_ (f_X7_note σ9 (z + 173) (nI i) w) fun _ σ11 => some ((0 : Int32), σ11)) = some (0, bz_wb τ (z + 174) (upd (noteR r i w) (8 + 20 * i + 5) 0)) ∧ Fr z σ σ2 ∧ σ2.1 z 7 = σ.1 z 7 ∧ NW z σ2 (upd (noteR r i w) (8 + 20 * i + 5) 0) cnt ck (t + 1) sz nx := by
  have hi8 : i < 8 := by have := h.2.2.2.2.1.1; omega
  obtain ⟨hz, h1, h2, h3, h4, h5, h6⟩ := id h
  have hR := h3.2.2.2.2.2.1 i hi
  obtain ⟨σ', g1, g2, g3, g4, g5⟩ := h.noted hi8 ht hw
  have hR' := g4.2.2.2.1.2.2.2.2.2.1 i hi
  obtain ⟨k1, k2, k3⟩ := g4.motor hi (σ' := bz_wi σ' (z + 1 + 2 + 2 * i) 8 0) rfl (fun x q1 q2 => by rw [wi_o _ _ _ q1]) (by rw [wi_so _ _ (by omega)]) (fun y hy => by rw [up_o _ _ (by omega)]) (hR'.set (F := 8) (w := 5) 0 (by omega)) (by
    obtain ⟨ra, rm, fa, li, ne, md, he, lo, sc, si, la, e0, e1, e2, e3, e4, e5, e6, e7, e8, e9, e10, bb⟩ := g4.2.2.2.2.1.2.2.2.2.2.2.1 i hi
    refine ⟨ra, rm, fa, li, ne, 0, he, lo, sc, si, la, ?_, ?_, ?_, ?_, ?_, ?_, ?_, ?_, ?_, ?_, ?_, by omega⟩
    all_goals first | (rw [up_o _ _ (by omega)]; assumption) | (rw [up_s]; rfl))
  refine ⟨σ', bz_wi σ' (z + 1 + 2 + 2 * i) 8 0, g1, ?_, ?_, g2.trans k1, k2.trans g3, k3⟩
  · unfold f_X2_change
    rw [lt_n, lt_n, g5 _ (by omega), ← hR.2.2.2.2.2.1]
  · rw [m_put5 hN hi8, bd_n, m_note hN (t := t) (by rw [up_o _ _ (by omega)]; exact h3.2.2.2.1.2) (by omega), bd_n, noteR_up _ _ _ _ (by omega) (by omega)]
theorem co1 (h : NW z σ r cnt ck t sz nx) (hN : τ.2 (z + 173) 0 = z + 174) (hi : i < cnt) (ht : t + 1 < 2 ^ 30) (x3 y3 : Int32) : CO z σ τ r cnt ck t sz nx 1 (nI i) x3 y3 (r (8 + 20 * i + 5)) (fun _ => True) := by
  obtain ⟨σ', σ2, g1, g2, g3, g4, g5, g6⟩ := co13 (w := 3) h hN hi ht (by decide)
  unfold CO f_X6_carryOut f_X7_carryOut
  rw [if_neg (show ¬ (1 : Int32) = 4 by decide), h.2.2.2.2.2.1, h.find hi, bd_n, if_neg (q_ne z i), if_neg (show ¬ (1 : Int32) = 0 by decide), if_pos rfl, if_neg (show ¬ (1 : Int32) = 0 by decide), if_pos rfl, h.2.2.2.2.2.1, g1, bd_n, g2, bd_n, g3]
  exact ⟨_, _, _, rfl, rfl, g4, g5, g6, Nat.le_refl _, trivial⟩
theorem co3 (h : NW z σ r cnt ck t sz nx) (hN : τ.2 (z + 173) 0 = z + 174) (hi : i < cnt) (ht : t + 1 < 2 ^ 30) (x3 y3 : Int32) : ∃ v, CO z σ τ r cnt ck t sz nx 3 (nI i) x3 y3 v (fun r' => v = r' (8 + 20 * i + 6)) := by
  obtain ⟨σ', σ2, g1, g2, g3, g4, g5, g6⟩ := co13 (w := 6) h hN hi ht (by decide)
  unfold CO f_X6_carryOut f_X7_carryOut
  rw [if_neg (show ¬ (3 : Int32) = 4 by decide), h.2.2.2.2.2.1, h.find hi, bd_n, if_neg (q_ne z i), if_neg (show ¬ (3 : Int32) = 0 by decide), if_neg (show ¬ (3 : Int32) = 1 by decide), if_neg (show ¬ (3 : Int32) = 2 by decide), if_neg (show ¬ (3 : Int32) = 0 by decide), if_neg (show ¬ (3 : Int32) = 1 by decide), if_neg (show ¬ (3 : Int32) = 2 by decide), if_pos rfl, h.2.2.2.2.2.1, g1, bd_n, g2, bd_n, g3]
  exact ⟨_, _, _, _, rfl, rfl, g4, g5, g6, Nat.le_refl _, (g6.2.2.2.1.2.2.2.2.2.1 i hi).2.2.2.2.2.2.1.symm⟩
theorem co2 (h : NW z σ r cnt ck t sz nx) (hN : τ.2 (z + 173) 0 = z + 174) (hi : i < cnt) (ht : t + 1 < 2 ^ 30) {p : Nat} (hp : p ≤ 7) : CO z σ τ r cnt ck t sz nx 2 (nI i) (nI p) (nI p) (r (8 + 20 * i + 7)) (fun _ => True) := by
  have hi8 : i < 8 := by have := h.2.2.2.2.1.1; omega
  obtain ⟨hz, h1, h2, h3, h4, h5, h6⟩ := id h
  have hR := h3.2.2.2.2.2.1 i hi
  have q1 := (h1.2.2.2.1 i hi8).2
  unfold CO f_X6_carryOut f_X7_carryOut f_X6_carryOutLoss
  rw [if_neg (show ¬ (2 : Int32) = 4 by decide), h5, h.find hi, bd_n, if_neg (q_ne z i), if_neg (show ¬ (2 : Int32) = 0 by decide), if_neg (show ¬ (2 : Int32) = 1 by decide), if_pos rfl, if_neg (show ¬ (2 : Int32) = 0 by decide), if_neg (show ¬ (2 : Int32) = 1 by decide), if_pos rfl, lt_n, lt_n, m_put7 hN hi8, bd_n, m_of5 hN hi8, bd_n, wi_so _ _ (show 8 ≠ 10 by omega), ← hR.2.2.2.2.2.1, ← hR.2.2.2.2.2.2.2.1, up_o _ _ (show 8 + 20 * i + 5 ≠ 8 + 20 * i + 7 by omega)]
  obtain ⟨k1, k2, k3⟩ := h.motor hi (σ' := bz_wi σ (z + 1 + 2 + 2 * i) 10 (nI p)) rfl (fun x q1 q2 => by rw [wi_o _ _ _ q1]) (by rw [wi_so _ _ (by omega)]) (fun y hy => by rw [up_o _ _ (by omega)]) (hR.set (F := 10) (w := 7) (nI p) (by omega)) (by
    obtain ⟨ra, rm, fa, li, ne, md, he, lo, sc, si, la, e0, e1, e2, e3, e4, e5, e6, e7, e8, e9, e10, bb⟩ := h4.2.2.2.2.2.2.1 i hi
    refine ⟨ra, rm, fa, li, ne, md, he, p, sc, si, la, ?_, ?_, ?_, ?_, ?_, ?_, ?_, ?_, ?_, ?_, ?_, by omega⟩
    all_goals first | (rw [up_o _ _ (by omega)]; assumption) | rw [up_s])
  by_cases hp0 : nI p = 0
  · rw [if_pos hp0, if_pos hp0]
    by_cases hm : r (8 + 20 * i + 5) = 2
    · rw [if_pos hm, bd_n]
      exact ⟨_, _, t, rfl, rfl, k1, k2, k3, by omega, trivial⟩
    · rw [if_neg hm, bd_n]
      exact ⟨_, _, t, rfl, rfl, k1, k2, k3, by omega, trivial⟩
  · rw [if_neg hp0, if_neg hp0]
    by_cases hm : r (8 + 20 * i + 5) = 2
    · rw [if_pos hm, if_pos hm]
      obtain ⟨σ2, f1, f2, f3, f4, f5⟩ := c_trip (w := 4) (by rw [k1.1, q1]; omega) (k3.2.2.2.1.2.2.2.2.2.1 i hi)
      obtain ⟨l1, l2, l3⟩ := k3.motor hi (r' := tripR (upd r (8 + 20 * i + 7) (nI p)) i 4) f2 f3 f4 (fun y hy => tripR_o (by omega) (by omega) (by omega)) f5 (by
        obtain ⟨ra, rm, fa, li, ne, md, he, lo, sc, si, la, e0, e1, e2, e3, e4, e5, e6, e7, e8, e9, e10, bb⟩ := k3.2.2.2.2.1.2.2.2.2.2.2.1 i hi
        refine ⟨ra, rm, fa, li, ne, 4, he, lo, sc, si, la, ?_, ?_, ?_, ?_, ?_, ?_, ?_, ?_, ?_, ?_, ?_, by omega⟩
        all_goals first | (rw [tripR_o (by omega) (by omega) (by omega)]; assumption) | (unfold tripR; rw [up_o _ _ (by omega), up_o _ _ (by omega), up_s]; rfl))
      obtain ⟨σ3, n1, n2, n3, n4, -⟩ := l3.noted hi8 ht (x := 5) (by decide)
      rw [f1, bd_n, if_neg (show ¬ (4 : Int32) = 2 by decide), wi_2, h5, n1, bd_n, bd_n, m_trip hN hi8 (t := t) (by rw [up_o _ _ (by omega)]; exact h3.2.2.2.1.2) (by omega), bd_n, if_neg (show ¬ (4 : Int32) = 2 by decide)]
      exact ⟨_, _, t + 1, rfl, rfl, (k1.trans l1).trans n2, by rw [n3, l2, k2], n4, by omega, trivial⟩
    · rw [if_neg hm, if_neg hm, bd_n]
      exact ⟨_, _, t, rfl, rfl, k1, k2, k3, by omega, trivial⟩
theorem co4 (h : NW z σ r cnt ck t sz nx) (hN : τ.2 (z + 173) 0 = z + 174) {x : Int32} (hx : x = 0 ∨ x = 1) (x3 y3 : Int32) : CO z σ τ r cnt ck t sz nx 4 x x3 y3 x (fun _ => True) := by
  obtain ⟨hz, h1, h2, h3, h4, h5, h6⟩ := id h
  have hF : Fr z σ (bz_wi σ (z + 1) 6 x) := (Fr.refl z σ).wi _ (by omega) (Or.inl (by omega))
  have hn : NW z (bz_wi σ (z + 1) 6 x) (upd r 3 x) cnt ck t sz nx := by
    refine h.next hF (h3.hdr h4.1 (fun x hx => wi_o _ _ _ hx) (fun y hy => up_o _ _ (by omega)) (wi_so _ _ (by omega)) ⟨by rw [wi_so _ _ (by omega)]; exact h3.2.1.1, by rw [up_o _ _ (by omega)]; exact h3.2.1.2⟩ ⟨by rw [up_o _ _ (by omega), wi_so _ _ (by omega)]; exact h3.2.2.1.1, by rw [up_s, wi_ss], by rw [up_o _ _ (by omega), wi_so _ _ (by omega)]; exact h3.2.2.1.2.2⟩) (h4.hdr (Nat.le_refl _) h4.2.1 (fun y hy => up_o _ _ (by omega)) (by rw [up_s]; exact hx))
  unfold CO f_X6_carryOut f_X7_carryOut
  rw [if_pos rfl, if_neg (show ¬ (4 : Int32) = 0 by decide), if_neg (show ¬ (4 : Int32) = 1 by decide), if_neg (show ¬ (4 : Int32) = 2 by decide), if_neg (show ¬ (4 : Int32) = 3 by decide), lt_n, wb_2, hN, wi_wb, h5]
  rcases hx with rfl | rfl
  · rw [if_neg (show ¬ (0 : Int32) = 1 by decide), lt_n]
    exact ⟨_, _, t, rfl, rfl, hF, by rw [wi_o _ _ _ (by omega)], hn, by omega, trivial⟩
  · rw [if_pos rfl, lt_n]
    exact ⟨_, _, t, rfl, rfl, hF, by rw [wi_o _ _ _ (by omega)], hn, by omega, trivial⟩
end CO
