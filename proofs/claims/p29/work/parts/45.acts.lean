/-! the acts on the row: settings, orders, a new motor -/
def GF (r : Nat → Int32) (cnt ck t : Nat) : Prop := RF r cnt ck t ∧ r 4 = 0 ∧ ∀ i, i < cnt → MI r ck i
theorem GF.gr {r : Nat → Int32} {cnt ck t : Nat} (h : GF r cnt ck t) : GR r := ⟨cnt, ck, t, h⟩
theorem WW.full {z k : Nat} {σ τ : bz_W} (h : WW z k σ τ) (hk : k < 512) : ∃ cnt ck t, WR z k cnt ck t σ τ ∧ GF (τ.1 (z + 174)) cnt ck t ∧ ck ≤ 60 * k ∧ t ≤ 1000 * k := by
  obtain ⟨cnt, ck, t, h1, h2, h3⟩ := h.wr hk
  obtain ⟨cnt2, ck2, t2, g1, g2, g3⟩ := Rel.rf h.1
  have b3 := g1.2.2.2.2.1
  have b4 := h1.2.2.2.2.2.2.1
  have b5 := g1.2.2.2.2.2.1
  have b6 := h1.2.2.2.2.2.2.2.1
  obtain rfl : ck = ck2 := (nI_eq (by omega) (by omega)).mp (h1.2.2.2.1.symm.trans g1.2.1)
  obtain rfl : t = t2 := (nI_eq (by omega) (by omega)).mp (h1.2.2.2.2.1.symm.trans g1.2.2.1)
  exact ⟨cnt, ck, t, h1, ⟨h1.2.2, h2, h3⟩, g2, g3⟩
section GFS
variable {r r' : Nat → Int32} {cnt ck t i : Nat}
theorem GF.mot1 (h : GF r cnt ck t) (hi : i < cnt) (e2 : ∀ y, (y < 8 + 20 * i ∨ 8 + 20 * i + 20 ≤ y) → r' y = r y) (hI : IM r' ck i) (hM : MI r' ck i) : GF r' cnt ck t := by
  obtain ⟨⟨h0, h1, h6, hc, hck, ht, h3, hI0⟩, h4, hM0⟩ := h
  refine ⟨⟨by rw [e2 0 (by omega)]; exact h0, by rw [e2 1 (by omega)]; exact h1, by rw [e2 6 (by omega)]; exact h6, hc, hck, ht, by rw [e2 3 (by omega)]; exact h3, fun j hj => ?_⟩, by rw [e2 4 (by omega)]; exact h4, fun j hj => ?_⟩
  · by_cases e : j = i
    · subst e; exact hI
    · exact (hI0 j hj).congr fun w hw => e2 _ (by omega)
  · by_cases e : j = i
    · subst e; exact hM
    · exact (hM0 j hj).congr fun w hw => e2 _ (by omega)
theorem GF.hdr (h : GF r cnt ck t) {ck' : Nat} (hk : ck ≤ ck') (hk2 : ck' < 2 ^ 30) (e2 : ∀ y, y = 0 ∨ y = 4 ∨ 6 ≤ y → r' y = r y) (e1 : r' 1 = nI ck') (e3 : r' 3 = 0 ∨ r' 3 = 1) : GF r' cnt ck' t := by
  obtain ⟨⟨h0, h1, h6, hc, hck, ht, h3, hI0⟩, h4, hM0⟩ := h
  exact ⟨⟨by rw [e2 0 (by omega)]; exact h0, e1, by rw [e2 6 (by omega)]; exact h6, hc, hk2, ht, e3, fun j hj => ((hI0 j hj).congr fun w hw => e2 _ (by omega)).mono hk⟩, by rw [e2 4 (by omega)]; exact h4, fun j hj => ((hM0 j hj).congr fun w hw => e2 _ (by omega)).mono hk⟩
theorem GF.note (h : GF r cnt ck t) (ht1 : t + 1 < 2 ^ 30) (j : Nat) (x : Int32) : GF (noteR r j x) cnt ck (t + 1) := by
  obtain ⟨⟨h0, h1, h6, hc, hck, ht, h3, hI0⟩, h4, hM0⟩ := h
  have o : ∀ y, y ≠ 6 → y < 216 → noteR r j x y = r y := fun y g1 g2 => noteR_o g1 (Or.inl g2)
  refine ⟨⟨by rw [o 0 (by omega) (by omega)]; exact h0, by rw [o 1 (by omega) (by omega)]; exact h1, ?_, hc, hck, ht1, by rw [o 3 (by omega) (by omega)]; exact h3, fun i hi => (hI0 i hi).congr fun w hw => o _ (by omega) (by omega)⟩, by rw [o 4 (by omega) (by omega)]; exact h4, fun i hi => (hM0 i hi).congr fun w hw => o _ (by omega) (by omega)⟩
  unfold noteR
  rw [up_s, h6, nI_1]
theorem evV_note (h : RF r cnt ck t) (j : Nat) (x : Int32) (ht : t + 1 < 2 ^ 30) : evV (noteR r j x) 0 2 = x := by
  have h6 := h.2.2.1
  have e6 : noteR r j x 6 = nI (t + 1) := by unfold noteR; rw [up_s, h6, nI_1]
  have hm : t % 10 < 10 := Nat.mod_lt _ (by omega)
  unfold evV
  rw [e6, vN_nI (by omega), if_pos (by omega), show t + 1 - 1 - 0 = t by omega]
  unfold noteR
  rw [h6, vN_nI (by omega), up_o _ _ (by omega), up_s]
/-- a motor's mode set, when it doesn't turn then -/
theorem IM.mode (h : IM r ck i) {m : Nat} (hm : m = 0 ∨ m = 1 ∨ m = 4) : IM (upd r (8 + 20 * i + 5) (nI m)) ck i := by
  obtain ⟨ra, rm, fa, li, ne, md, he, lo, sc, si, la, e0, e1, e2, e3, e4, e5, e6, e7, e8, e9, e10, bb⟩ := h
  refine ⟨ra, rm, fa, li, ne, m, he, lo, sc, si, la, ?_, ?_, ?_, ?_, ?_, ?_, ?_, ?_, ?_, ?_, ?_, by omega⟩
  all_goals first | (rw [up_o _ _ (by omega)]; assumption) | (rw [up_s])
theorem IM.reqd (h : IM r ck i) : IM (upd r (8 + 20 * i + 9) (nI ck)) ck i := by
  obtain ⟨ra, rm, fa, li, ne, md, he, lo, sc, si, la, e0, e1, e2, e3, e4, e5, e6, e7, e8, e9, e10, bb⟩ := h
  refine ⟨ra, rm, fa, li, ne, md, he, lo, sc, ck, la, ?_, ?_, ?_, ?_, ?_, ?_, ?_, ?_, ?_, ?_, ?_, by omega⟩
  all_goals first | (rw [up_o _ _ (by omega)]; assumption) | (rw [up_s])
theorem IM.need (h : IM r ck i) {n : Nat} (hn : n ≤ 9) : IM (upd r (8 + 20 * i + 4) (nI n)) ck i := by
  obtain ⟨ra, rm, fa, li, ne, md, he, lo, sc, si, la, e0, e1, e2, e3, e4, e5, e6, e7, e8, e9, e10, bb⟩ := h
  refine ⟨ra, rm, fa, li, n, md, he, lo, sc, si, la, ?_, ?_, ?_, ?_, ?_, ?_, ?_, ?_, ?_, ?_, ?_, by omega⟩
  all_goals first | (rw [up_o _ _ (by omega)]; assumption) | (rw [up_s])
theorem IM.lost (h : IM r ck i) {n : Nat} (hn : n ≤ 7) : IM (upd r (8 + 20 * i + 7) (nI n)) ck i := by
  obtain ⟨ra, rm, fa, li, ne, md, he, lo, sc, si, la, e0, e1, e2, e3, e4, e5, e6, e7, e8, e9, e10, bb⟩ := h
  refine ⟨ra, rm, fa, li, ne, md, he, n, sc, si, la, ?_, ?_, ?_, ?_, ?_, ?_, ?_, ?_, ?_, ?_, ?_, by omega⟩
  all_goals first | (rw [up_o _ _ (by omega)]; assumption) | (rw [up_s])
theorem IM.trip (h : IM r ck i) (w : Int32) : IM (tripR r i w) ck i := by
  obtain ⟨ra, rm, fa, li, ne, md, he, lo, sc, si, la, e0, e1, e2, e3, e4, e5, e6, e7, e8, e9, e10, bb⟩ := h
  refine ⟨ra, rm, fa, li, ne, 4, he, lo, sc, si, la, ?_, ?_, ?_, ?_, ?_, ?_, ?_, ?_, ?_, ?_, ?_, by omega⟩
  all_goals first | (rw [tripR_o (by omega) (by omega) (by omega)]; assumption) | (unfold tripR; rw [up_o _ _ (by omega), up_o _ _ (by omega), up_s]; rfl)
/-- a field that the invariant doesn't speak of -/
theorem MI.oth (h : MI r ck i) {w : Nat} (v : Int32) (hw : w = 4 ∨ w = 8 ∨ w = 9 ∨ w = 10 ∨ w = 15 ∨ w = 17 ∨ w = 18) : MI (upd r (8 + 20 * i + w) v) ck i := by
  unfold MI
  rw [up_o _ _ (show 8 + 20 * i + 12 ≠ 8 + 20 * i + w by omega), up_o _ _ (show 8 + 20 * i + 13 ≠ 8 + 20 * i + w by omega), up_o _ _ (show 8 + 20 * i + 6 ≠ 8 + 20 * i + w by omega), up_o _ _ (show 8 + 20 * i + 5 ≠ 8 + 20 * i + w by omega), up_o _ _ (show 8 + 20 * i + 7 ≠ 8 + 20 * i + w by omega), up_o _ _ (show 8 + 20 * i + 11 ≠ 8 + 20 * i + w by omega), up_o _ _ (show 8 + 20 * i + 14 ≠ 8 + 20 * i + w by omega), up_o _ _ (show 8 + 20 * i + 16 ≠ 8 + 20 * i + w by omega)]
  exact h
theorem MI.mode (h : MI r ck i) {v : Int32} (h2 : ¬ v = 2) (h4 : ¬ v = 4) : MI (upd r (8 + 20 * i + 5) v) ck i := by
  unfold MI
  rw [up_o _ _ (show 8 + 20 * i + 12 ≠ 8 + 20 * i + 5 by omega), up_o _ _ (show 8 + 20 * i + 13 ≠ 8 + 20 * i + 5 by omega), up_o _ _ (show 8 + 20 * i + 6 ≠ 8 + 20 * i + 5 by omega), up_s, up_o _ _ (show 8 + 20 * i + 7 ≠ 8 + 20 * i + 5 by omega), up_o _ _ (show 8 + 20 * i + 11 ≠ 8 + 20 * i + 5 by omega), up_o _ _ (show 8 + 20 * i + 14 ≠ 8 + 20 * i + 5 by omega), up_o _ _ (show 8 + 20 * i + 16 ≠ 8 + 20 * i + 5 by omega)]
  exact ⟨h.1, fun e => absurd e h2, fun e => absurd e h4, h.2.2.2⟩
theorem MI.lost (h : MI r ck i) (v : Int32) (hv : r (8 + 20 * i + 5) = 2 → v = 0) : MI (upd r (8 + 20 * i + 7) v) ck i := by
  unfold MI
  rw [up_o _ _ (show 8 + 20 * i + 12 ≠ 8 + 20 * i + 7 by omega), up_o _ _ (show 8 + 20 * i + 13 ≠ 8 + 20 * i + 7 by omega), up_o _ _ (show 8 + 20 * i + 6 ≠ 8 + 20 * i + 7 by omega), up_o _ _ (show 8 + 20 * i + 5 ≠ 8 + 20 * i + 7 by omega), up_s, up_o _ _ (show 8 + 20 * i + 11 ≠ 8 + 20 * i + 7 by omega), up_o _ _ (show 8 + 20 * i + 14 ≠ 8 + 20 * i + 7 by omega), up_o _ _ (show 8 + 20 * i + 16 ≠ 8 + 20 * i + 7 by omega)]
  exact ⟨h.1, hv, h.2.2⟩
theorem MI.tripw (h1 : r (8 + 20 * i + 12) = r (8 + 20 * i + 13) + r (8 + 20 * i + 6)) (h2 : ∃ s t : Nat, r (8 + 20 * i + 14) = nI s ∧ r (8 + 20 * i + 16) = nI t ∧ s ≤ t ∧ t ≤ ck) {w : Int32} (hw : w = 2 ∨ w = 4) : MI (tripR r i w) ck i := by
  unfold MI
  rw [tripR_o (y := 8 + 20 * i + 12) (by omega) (by omega) (by omega), tripR_o (y := 8 + 20 * i + 13) (by omega) (by omega) (by omega), tripR_o (y := 8 + 20 * i + 6) (by omega) (by omega) (by omega), tripR_o (y := 8 + 20 * i + 7) (by omega) (by omega) (by omega), tripR_o (y := 8 + 20 * i + 14) (by omega) (by omega) (by omega), tripR_o (y := 8 + 20 * i + 16) (by omega) (by omega) (by omega)]
  have e5 : tripR r i w (8 + 20 * i + 5) = 4 := by unfold tripR; rw [up_o _ _ (by omega), up_o _ _ (by omega), up_s]
  have e11 : tripR r i w (8 + 20 * i + 11) = w := by unfold tripR; rw [up_o _ _ (by omega), up_s]
  rw [e5, e11]
  exact ⟨h1, fun e => absurd e (by decide), fun _ => hw, h2⟩
theorem GF.mode (h : GF r cnt ck t) (hi : i < cnt) {m : Nat} (hm : m = 0 ∨ m = 1) : GF (upd r (8 + 20 * i + 5) (nI m)) cnt ck t :=
  h.mot1 hi (fun y hy => up_o _ _ (by omega)) ((h.1.2.2.2.2.2.2.2 i hi).mode (by omega)) ((h.2.2 i hi).mode (fun e => by have := (nI_eq (b := 2) (by omega) (by omega)).mp e; omega) (fun e => by have := (nI_eq (b := 4) (by omega) (by omega)).mp e; omega))
theorem GF.need (h : GF r cnt ck t) (hi : i < cnt) {n : Nat} (hn : n ≤ 9) : GF (upd r (8 + 20 * i + 4) (nI n)) cnt ck t :=
  h.mot1 hi (fun y hy => up_o _ _ (by omega)) ((h.1.2.2.2.2.2.2.2 i hi).need hn) ((h.2.2 i hi).oth (w := 4) _ (by omega))
theorem GF.reqd (h : GF r cnt ck t) (hi : i < cnt) : GF (upd r (8 + 20 * i + 9) (nI ck)) cnt ck t :=
  h.mot1 hi (fun y hy => up_o _ _ (by omega)) ((h.1.2.2.2.2.2.2.2 i hi).reqd) ((h.2.2 i hi).oth (w := 9) _ (by omega))
theorem GF.lost (h : GF r cnt ck t) (hi : i < cnt) {n : Nat} (hn : n ≤ 7) (hv : r (8 + 20 * i + 5) = 2 → nI n = 0) : GF (upd r (8 + 20 * i + 7) (nI n)) cnt ck t :=
  h.mot1 hi (fun y hy => up_o _ _ (by omega)) ((h.1.2.2.2.2.2.2.2 i hi).lost hn) ((h.2.2 i hi).lost _ hv)
end GFS
section ORD
variable {τ : bz_W} {M N i cnt ck t : Nat} {r : Nat → Int32}
theorem ord_no {a x y w : Int32} (hw : f_X7_wrongIn τ M a x y = some (w, τ)) (h : w = 1 ∨ w = 2 ∨ w = 4) : f_X7_orders τ M a x y = some (-3, bz_wi τ M 5 w) := by
  unfold f_X7_orders f_X7_refuse
  rw [hw, bd_n, if_neg (by rcases h with rfl | rfl | rfl <;> decide), lt_n, bd_n]
theorem ord_nn {a x y : Int32} (hw : f_X7_wrongIn τ M a x y = some (-4, τ)) : f_X7_orders τ M a x y = some (-4, τ) := by
  unfold f_X7_orders
  rw [hw, bd_n, if_pos (by decide), if_neg (by decide)]
theorem ord_ok {τ' τ1 : bz_W} {a x y : Int32} (hw : f_X7_wrongIn τ M a x y = some (0, τ)) (hr : f_X7_record τ M = some (0, τ')) (hc : f_X7_carryOut τ' M a x y = some (0, τ1)) : f_X7_orders τ M a x y = some (0, τ1) := by
  unfold f_X7_orders
  rw [hw, bd_n, if_pos (by decide), if_pos (by decide), hr, bd_n, hc, bd_n]
theorem mw_0 (hN : τ.2 M 0 = N) (h : RF r cnt ck t) (hi : i < cnt) (y : Int32) : f_X7_wrongIn (bz_wb τ N r) M 0 (nI i) y = some (if r (8 + 20 * i + 5) = 0 then 0 else 1, bz_wb τ N r) := by
  have hc := h.2.2.2.1
  unfold f_X7_wrongIn
  rw [if_neg (by decide), m_noY hN hc h.1 hi, bd_n, if_pos rfl, m_of5 hN (by omega), bd_n, if_pos rfl]
  split <;> rfl
theorem mw_1 (hN : τ.2 M 0 = N) (h : RF r cnt ck t) (hi : i < cnt) (y : Int32) : f_X7_wrongIn (bz_wb τ N r) M 1 (nI i) y = some (if r (8 + 20 * i + 5) = 0 then 1 else if r (8 + 20 * i + 5) = 4 then 1 else 0, bz_wb τ N r) := by
  have hc := h.2.2.2.1
  unfold f_X7_wrongIn
  rw [if_neg (by decide), m_noY hN hc h.1 hi, bd_n, if_pos rfl, m_of5 hN (by omega), bd_n, if_neg (by decide), if_pos rfl]
  split
  · rfl
  · split <;> rfl
theorem mw_2 (hN : τ.2 M 0 = N) (h : RF r cnt ck t) (hi : i < cnt) (y : Int32) : f_X7_wrongIn (bz_wb τ N r) M 2 (nI i) y = some (if r (8 + 20 * i + 7) = y then -4 else 0, bz_wb τ N r) := by
  have hc := h.2.2.2.1
  unfold f_X7_wrongIn
  rw [if_neg (by decide), m_noY hN hc h.1 hi, bd_n, if_pos rfl, m_of5 hN (by omega), bd_n, if_neg (by decide), if_neg (by decide), if_pos rfl, m_of7 hN (by omega), bd_n]
  split <;> rfl
theorem mw_3 (hN : τ.2 M 0 = N) (h : RF r cnt ck t) (hi : i < cnt) (y : Int32) : f_X7_wrongIn (bz_wb τ N r) M 3 (nI i) y = some (if r (8 + 20 * i + 5) = 4 then (if r (8 + 20 * i + 7) = 0 then (if r (8 + 20 * i + 6) ≤ r (8 + 20 * i + 3) / 2 then 0 else 2) else 4) else 1, bz_wb τ N r) := by
  have hc := h.2.2.2.1
  unfold f_X7_wrongIn
  rw [if_neg (by decide), m_noY hN hc h.1 hi, bd_n, if_pos rfl, m_of5 hN (by omega), bd_n, if_neg (by decide), if_neg (by decide), if_neg (by decide), m_of7 hN (by omega), bd_n, m_of6 hN (by omega), bd_n, m_of3 hN (by omega), bd_n]
  split
  · split
    · split <;> rfl
    · rfl
  · rfl
theorem mc_0 (hN : τ.2 M 0 = N) (hi : i < 8) (y : Int32) : f_X7_carryOut (bz_wb τ N r) M 0 (nI i) y = some (0, bz_wb τ N (upd (upd r (8 + 20 * i + 5) 1) (8 + 20 * i + 9) (r 1))) := by
  unfold f_X7_carryOut
  rw [if_pos rfl, m_put5 hN hi, bd_n, wb_2, hN, wb_s, m_put9 hN hi, bd_n, up_o _ _ (show 1 ≠ 8 + 20 * i + 5 by omega)]
theorem mc_1 (hN : τ.2 M 0 = N) (hi : i < 8) (h6 : r 6 = nI t) (ht : t < 2 ^ 30) (y : Int32) : f_X7_carryOut (bz_wb τ N r) M 1 (nI i) y = some (0, bz_wb τ N (upd (noteR r i 3) (8 + 20 * i + 5) 0)) := by
  unfold f_X7_carryOut
  rw [if_neg (by decide), if_pos rfl, m_put5 hN hi, bd_n, m_note hN (t := t) (by rw [up_o _ _ (by omega)]; exact h6) ht, bd_n, noteR_up _ _ _ _ (by omega) (by omega)]
theorem mc_3 (hN : τ.2 M 0 = N) (hi : i < 8) (h6 : r 6 = nI t) (ht : t < 2 ^ 30) (y : Int32) : f_X7_carryOut (bz_wb τ N r) M 3 (nI i) y = some (0, bz_wb τ N (upd (noteR r i 6) (8 + 20 * i + 5) 0)) := by
  unfold f_X7_carryOut
  rw [if_neg (by decide), if_neg (by decide), if_neg (by decide), if_pos rfl, m_put5 hN hi, bd_n, m_note hN (t := t) (by rw [up_o _ _ (by omega)]; exact h6) ht, bd_n, noteR_up _ _ _ _ (by omega) (by omega)]
def loseR (r : Nat → Int32) (i : Nat) (y : Int32) : Nat → Int32 := if y = 0 then upd r (8 + 20 * i + 7) y else if r (8 + 20 * i + 5) = 2 then noteR (tripR (upd r (8 + 20 * i + 7) y) i 4) i 5 else upd r (8 + 20 * i + 7) y
theorem mc_2 (hN : τ.2 M 0 = N) (hi : i < 8) (h6 : r 6 = nI t) (ht : t < 2 ^ 30) (y : Int32) : f_X7_carryOut (bz_wb τ N r) M 2 (nI i) y = some (0, bz_wb τ N (loseR r i y)) := by
  unfold f_X7_carryOut loseR
  rw [if_neg (by decide), if_neg (by decide), if_pos rfl, m_put7 hN hi, bd_n, m_of5 hN hi, bd_n, up_o _ _ (show 8 + 20 * i + 5 ≠ 8 + 20 * i + 7 by omega), m_trip hN hi (t := t) (by rw [up_o _ _ (by omega)]; exact h6) ht, bd_n, if_neg (show ¬ (4 : Int32) = 2 by decide)]
  by_cases h0 : y = 0
  · rw [if_pos h0, if_pos h0]
  · rw [if_neg h0, if_neg h0]
    by_cases h2 : r (8 + 20 * i + 5) = 2
    · rw [if_pos h2, if_pos h2]
    · rw [if_neg h2, if_neg h2]
end ORD
theorem GF.lose {r : Nat → Int32} {cnt ck t i p : Nat} (h : GF r cnt ck t) (hi : i < cnt) (hp : p ≤ 7) (ht : t + 1 < 2 ^ 30) : GR (loseR r i (nI p)) := by
  unfold loseR
  by_cases h0 : nI p = 0
  · rw [if_pos h0]
    exact (h.lost hi hp (fun _ => h0)).gr
  · rw [if_neg h0]
    by_cases h2 : r (8 + 20 * i + 5) = 2
    · rw [if_pos h2]
      have hI := ((h.1.2.2.2.2.2.2.2 i hi).lost hp).trip 4
      have hM := h.2.2 i hi
      have hM' : MI (tripR (upd r (8 + 20 * i + 7) (nI p)) i 4) ck i := MI.tripw (by rw [up_o _ _ (by omega), up_o _ _ (by omega), up_o _ _ (by omega)]; exact hM.1) (by rw [up_o _ _ (by omega), up_o _ _ (by omega)]; exact hM.2.2.2) (Or.inr rfl)
      exact ((h.mot1 hi (r' := tripR (upd r (8 + 20 * i + 7) (nI p)) i 4) (fun y hy => by rw [tripR_o (by omega) (by omega) (by omega), up_o _ _ (by omega)]) hI hM').note ht i 5).gr
    · rw [if_neg h2]
      exact (h.lost hi hp (fun e => absurd e h2)).gr
