/-! pass, second part: a second of each motor -/
def G2 (r1 : Int32) (a0 : Nat) (x1_ : Int32) (σ14 : bz_W) : Option (Int32 × bz_W) := bd_ (f_X7_draws σ14 a0 x1_) fun r15 σ16 => bd_ (f_X7_of σ16 a0 x1_ 7) fun r17 σ18 => lt_ (fun (y19 : Int32) (σ20 : bz_W) => lt_ ((((r15 * r15) / 10) * y19)) fun x22 => bd_ (f_X7_more σ20 a0 x1_ 12 x22) fun _ σ24 => bd_ (f_X7_more σ24 a0 x1_ 6 x22) fun _ σ26 => bd_ (f_X7_of σ26 a0 x1_ 6) fun r27 σ28 => bd_ (f_X7_rate σ28 a0 r1) fun r29 σ30 => lt_ (((r27 * r29) / 1000)) fun x31 => bd_ (f_X7_more σ30 a0 x1_ 13 x31) fun _ σ33 => bd_ (f_X7_more σ33 a0 x1_ 6 (-x31)) fun _ σ35 => bd_ (f_X7_of σ35 a0 x1_ 5) fun r36 σ37 => lt_ (fun (y38 : Int32) (σ39 : bz_W) => lt_ (fun (y41 : Int32) (σ42 : bz_W) => bd_ (f_X7_put σ42 a0 x1_ 10 y41) fun _ σ45 => if r1 = 0 then some (0, σ45) else bd_ (f_X7_of σ45 a0 x1_ 6) fun r47 σ48 => bd_ (f_X7_of σ48 a0 x1_ 3) fun r49 σ50 => if r47 ≤ r49 then bd_ (f_X7_of σ50 a0 x1_ 10) fun r52 σ53 => if r52 = 3 then bd_ (f_X7_trip σ53 a0 x1_ 4) fun _ σ70 => some (0, σ70) else bd_ (f_X7_of σ53 a0 x1_ 5) fun r55 σ56 => if r55 = 2 then bd_ (f_X7_more σ56 a0 x1_ 8 1) fun _ σ59 => bd_ (f_X7_of σ59 a0 x1_ 8) fun r60 σ61 => bd_ (f_X7_of σ61 a0 x1_ 1) fun r62 σ63 => if r60 = r62 then bd_ (f_X7_put σ63 a0 x1_ 5 3) fun _ σ66 => bd_ (f_X7_note σ66 a0 x1_ 2) fun _ σ68 => some (0, σ68) else some (0, σ63) else some (0, σ56) else bd_ (f_X7_trip σ50 a0 x1_ 2) fun _ σ72 => some (0, σ72)) fun j43 => if y38 = 0 then j43 0 σ39 else bd_ (f_X7_of σ39 a0 x1_ 10) fun r74 σ75 => j43 (r74 + 1) σ75) fun j40 => lt_ (fun (σ76 : bz_W) => j40 0 σ76) fun j77 => if r36 = 3 then bd_ (f_X7_of σ37 a0 x1_ 7) fun r79 σ80 => if r79 = 0 then j77 σ80 else j40 1 σ80 else j77 σ37) fun j21 => if r17 = 0 then j21 1 σ18 else j21 2 σ18
def G3 (r1 : Int32) (a0 : Nat) (x1_ : Int32) (σ35 : bz_W) : Option (Int32 × bz_W) := bd_ (f_X7_of σ35 a0 x1_ 5) fun r36 σ37 => lt_ (fun (y38 : Int32) (σ39 : bz_W) => lt_ (fun (y41 : Int32) (σ42 : bz_W) => bd_ (f_X7_put σ42 a0 x1_ 10 y41) fun _ σ45 => if r1 = 0 then some (0, σ45) else bd_ (f_X7_of σ45 a0 x1_ 6) fun r47 σ48 => bd_ (f_X7_of σ48 a0 x1_ 3) fun r49 σ50 => if r47 ≤ r49 then bd_ (f_X7_of σ50 a0 x1_ 10) fun r52 σ53 => if r52 = 3 then bd_ (f_X7_trip σ53 a0 x1_ 4) fun _ σ70 => some (0, σ70) else bd_ (f_X7_of σ53 a0 x1_ 5) fun r55 σ56 => if r55 = 2 then bd_ (f_X7_more σ56 a0 x1_ 8 1) fun _ σ59 => bd_ (f_X7_of σ59 a0 x1_ 8) fun r60 σ61 => bd_ (f_X7_of σ61 a0 x1_ 1) fun r62 σ63 => if r60 = r62 then bd_ (f_X7_put σ63 a0 x1_ 5 3) fun _ σ66 => bd_ (f_X7_note σ66 a0 x1_ 2) fun _ σ68 => some (0, σ68) else some (0, σ63) else some (0, σ56) else bd_ (f_X7_trip σ50 a0 x1_ 2) fun _ σ72 => some (0, σ72)) fun j43 => if y38 = 0 then j43 0 σ39 else bd_ (f_X7_of σ39 a0 x1_ 10) fun r74 σ75 => j43 (r74 + 1) σ75) fun j40 => lt_ (fun (σ76 : bz_W) => j40 0 σ76) fun j77 => if r36 = 3 then bd_ (f_X7_of σ37 a0 x1_ 7) fun r79 σ80 => if r79 = 0 then j77 σ80 else j40 1 σ80 else j77 σ37
def G4 (r1 : Int32) (a0 : Nat) (x1_ : Int32) (σ45 : bz_W) : Option (Int32 × bz_W) := if r1 = 0 then some (0, σ45) else bd_ (f_X7_of σ45 a0 x1_ 6) fun r47 σ48 => bd_ (f_X7_of σ48 a0 x1_ 3) fun r49 σ50 => if r47 ≤ r49 then bd_ (f_X7_of σ50 a0 x1_ 10) fun r52 σ53 => if r52 = 3 then bd_ (f_X7_trip σ53 a0 x1_ 4) fun _ σ70 => some (0, σ70) else bd_ (f_X7_of σ53 a0 x1_ 5) fun r55 σ56 => if r55 = 2 then bd_ (f_X7_more σ56 a0 x1_ 8 1) fun _ σ59 => bd_ (f_X7_of σ59 a0 x1_ 8) fun r60 σ61 => bd_ (f_X7_of σ61 a0 x1_ 1) fun r62 σ63 => if r60 = r62 then bd_ (f_X7_put σ63 a0 x1_ 5 3) fun _ σ66 => bd_ (f_X7_note σ66 a0 x1_ 2) fun _ σ68 => some (0, σ68) else some (0, σ63) else some (0, σ56) else bd_ (f_X7_trip σ50 a0 x1_ 2) fun _ σ72 => some (0, σ72)
def cntR (r : Nat → Int32) (i : Nat) : Nat → Int32 := upd (upd r (8 + 20 * i + 16) (r (8 + 20 * i + 16) + (if turnR r i = 0 then 0 else 1))) (8 + 20 * i + 17) (r (8 + 20 * i + 17) + (if r (8 + 20 * i + 5) = 1 then 1 else 0))
def exX (r : Nat → Int32) (i : Nat) : Int32 := drawR r i * drawR r i / 10 * (if r (8 + 20 * i + 7) = 0 then 1 else 2)
def exG (r : Nat → Int32) (i : Nat) (T : Int32) : Int32 := (r (8 + 20 * i + 6) + exX r i) * rateR T (r 3) / 1000
def exR (r : Nat → Int32) (i : Nat) (T : Int32) : Nat → Int32 := upd (upd (upd r (8 + 20 * i + 6) (r (8 + 20 * i + 6) + exX r i - exG r i T)) (8 + 20 * i + 12) (r (8 + 20 * i + 12) + exX r i)) (8 + 20 * i + 13) (r (8 + 20 * i + 13) + exG r i T)
def laR (r : Nat → Int32) (i : Nat) : Int32 := if r (8 + 20 * i + 5) = 3 then (if r (8 + 20 * i + 7) = 0 then 0 else r (8 + 20 * i + 10) + 1) else 0
def endR (r : Nat → Int32) (i : Nat) (T : Int32) : Nat → Int32 := if T = 0 then r else if r (8 + 20 * i + 6) ≤ r (8 + 20 * i + 3) then (if r (8 + 20 * i + 10) < 3 then (if r (8 + 20 * i + 5) = 3 then r else if r (8 + 20 * i + 1) ≤ r (8 + 20 * i + 8) + 1 then upd (upd r (8 + 20 * i + 8) (r (8 + 20 * i + 8) + 1)) (8 + 20 * i + 5) 3 else upd r (8 + 20 * i + 8) (r (8 + 20 * i + 8) + 1)) else tripR r i 4) else tripR r i 2
def endC (r : Nat → Int32) (i : Nat) (T : Int32) : Int32 := if T = 0 then 0 else if r (8 + 20 * i + 6) ≤ r (8 + 20 * i + 3) then (if r (8 + 20 * i + 10) < 3 then (if r (8 + 20 * i + 5) = 3 then 0 else if r (8 + 20 * i + 1) ≤ r (8 + 20 * i + 8) + 1 then 2 else 0) else 5) else 4
def finR (r : Nat → Int32) (i : Nat) (T : Int32) : Nat → Int32 := if endC r i T = 0 then endR r i T else noteR (endR r i T) i (endC r i T)
section HT
variable {σ τ : bz_W} {z q M N i cnt ck t sz nx : Nat} {r : Nat → Int32}
theorem go_1 (hN : τ.2 M 0 = N) (hi : i < 8) : f_X7_goesOn (bz_wb τ N r) M (nI i) = G2 (turnR r i) M (nI i) (bz_wb τ N (cntR r i)) := by
  have e1 : ∀ v, upd r (8 + 20 * i + 16) v (8 + 20 * i + 17) = r (8 + 20 * i + 17) := fun v => up_o _ _ (by omega)
  have e2 : ∀ v, upd r (8 + 20 * i + 16) v (8 + 20 * i + 5) = r (8 + 20 * i + 5) := fun v => up_o _ _ (by omega)
  unfold f_X7_goesOn cntR
  rw [m_turns hN hi, bd_n, lt_n]
  by_cases hT : turnR r i = 0
  · rw [if_pos hT, if_pos hT]
    dsimp only
    rw [m_more16 hN hi, bd_n, m_waits hN hi, bd_n, lt_n, e2]
    by_cases hw : r (8 + 20 * i + 5) = 1
    · rw [if_pos hw, if_neg (by decide)]
      dsimp only
      rw [m_more17 hN hi, bd_n, e1]
      rfl
    · rw [if_neg hw, if_pos rfl]
      dsimp only
      rw [m_more17 hN hi, bd_n, e1]
      rfl
  · rw [if_neg hT, if_neg hT]
    dsimp only
    rw [m_more16 hN hi, bd_n, m_waits hN hi, bd_n, lt_n, e2]
    by_cases hw : r (8 + 20 * i + 5) = 1
    · rw [if_pos hw, if_neg (by decide)]
      dsimp only
      rw [m_more17 hN hi, bd_n, e1]
      rfl
    · rw [if_neg hw, if_pos rfl]
      dsimp only
      rw [m_more17 hN hi, bd_n, e1]
      rfl
theorem ex_row {r : Nat → Int32} {b : Nat} {x g : Int32} : upd (upd (upd (upd r (b + 12) (r (b + 12) + x)) (b + 6) (r (b + 6) + x)) (b + 13) (r (b + 13) + g)) (b + 6) (r (b + 6) + x + -g) = upd (upd (upd r (b + 6) (r (b + 6) + x - g)) (b + 12) (r (b + 12) + x)) (b + 13) (r (b + 13) + g) := by
  rw [up_comm _ _ _ (show b + 6 ≠ b + 13 by omega), up_up, up_comm _ _ _ (show b + 6 ≠ b + 12 by omega), Int32.sub_eq_add_neg]
theorem go_2 (hN : τ.2 M 0 = N) (hi : i < 8) (hr : ¬ r (8 + 20 * i + 1) = 0) (T : Int32) : G2 T M (nI i) (bz_wb τ N r) = G3 T M (nI i) (bz_wb τ N (exR r i T)) := by
  unfold G2
  rw [m_draws hN hi hr, bd_n, m_of7 hN hi, bd_n, lt_n]
  have key : ∀ y : Int32, y = (if r (8 + 20 * i + 7) = 0 then 1 else 2) → (lt_ (drawR r i * drawR r i / 10 * y) fun x22 => bd_ (f_X7_more (bz_wb τ N r) M (nI i) 12 x22) fun _ σ24 => bd_ (f_X7_more σ24 M (nI i) 6 x22) fun _ σ26 => bd_ (f_X7_of σ26 M (nI i) 6) fun r27 σ28 => bd_ (f_X7_rate σ28 M T) fun r29 σ30 => lt_ (((r27 * r29) / 1000)) fun x31 => bd_ (f_X7_more σ30 M (nI i) 13 x31) fun _ σ33 => bd_ (f_X7_more σ33 M (nI i) 6 (-x31)) fun _ σ35 => G3 T M (nI i) σ35) = G3 T M (nI i) (bz_wb τ N (exR r i T)) := by
    intro y hy
    subst hy
    rw [lt_n, m_more12 hN hi, bd_n, m_more6 hN hi, bd_n, m_of6 hN hi, bd_n, m_rate hN, bd_n, lt_n, m_more13 hN hi, bd_n, m_more6 hN hi, bd_n, up_s, up_o _ _ (show 3 ≠ 8 + 20 * i + 6 by omega), up_o _ _ (show 3 ≠ 8 + 20 * i + 12 by omega), up_o _ _ (show 8 + 20 * i + 6 ≠ 8 + 20 * i + 13 by omega), up_s, up_o _ _ (show 8 + 20 * i + 6 ≠ 8 + 20 * i + 12 by omega), up_o _ _ (show 8 + 20 * i + 13 ≠ 8 + 20 * i + 6 by omega), up_o _ _ (show 8 + 20 * i + 13 ≠ 8 + 20 * i + 12 by omega), ex_row]
    rfl
  by_cases h7 : r (8 + 20 * i + 7) = 0
  · rw [if_pos h7]
    exact key 1 (by rw [if_pos h7])
  · rw [if_neg h7]
    exact key 2 (by rw [if_neg h7])
theorem go_3 (hN : τ.2 M 0 = N) (hi : i < 8) (T : Int32) : G3 T M (nI i) (bz_wb τ N r) = G4 T M (nI i) (bz_wb τ N (upd r (8 + 20 * i + 10) (laR r i))) := by
  unfold G3 laR
  rw [m_of5 hN hi, bd_n, lt_n, lt_n]
  by_cases h3 : r (8 + 20 * i + 5) = 3
  · rw [if_pos h3, if_pos h3, m_of7 hN hi, bd_n]
    by_cases h7 : r (8 + 20 * i + 7) = 0
    · rw [if_pos h7, if_pos h7]
      dsimp only
      rw [lt_n, if_pos rfl]
      dsimp only
      rw [m_put10 hN hi, bd_n]
      rfl
    · rw [if_neg h7, if_neg h7]
      dsimp only
      rw [lt_n, if_neg (by decide), m_of10 hN hi, bd_n]
      dsimp only
      rw [m_put10 hN hi, bd_n]
      rfl
  · rw [if_neg h3, if_neg h3]
    dsimp only
    rw [lt_n, if_pos rfl]
    dsimp only
    rw [m_put10 hN hi, bd_n]
    rfl
theorem lt3 {la : Nat} (h : la ≤ 3) : (nI la < (3 : Int32)) ↔ ¬ nI la = 3 := by
  have e : (3 : Int32) = nI 3 := rfl
  rw [e, nI_ltI (by omega) (by omega), nI_eq (by omega) (by omega)]
  omega
theorem go_4 (hN : τ.2 M 0 = N) (hi : i < 8) (h6 : r 6 = nI t) (ht : t < 2 ^ 30) {T : Int32} (hT : T = 0 ∨ (r (8 + 20 * i + 5) = 2 ∨ r (8 + 20 * i + 5) = 3)) {la rm sc : Nat} (e10 : r (8 + 20 * i + 10) = nI la) (hla : la ≤ 3) (e1 : r (8 + 20 * i + 1) = nI rm) (e8 : r (8 + 20 * i + 8) = nI sc) (hrm : rm ≤ 30) (hsc : r (8 + 20 * i + 5) = 2 → sc < rm) : G4 T M (nI i) (bz_wb τ N r) = some (0, bz_wb τ N (finR r i T)) := by
  unfold G4 finR endC endR
  by_cases h0 : T = 0
  · rw [if_pos h0, if_pos h0, if_pos h0, if_pos rfl]
  · have hm : r (8 + 20 * i + 5) = 2 ∨ r (8 + 20 * i + 5) = 3 := by rcases hT with q | q; exact absurd q h0; exact q
    simp only [if_neg h0]
    rw [m_of6 hN hi, bd_n, m_of3 hN hi, bd_n]
    by_cases hh : r (8 + 20 * i + 6) ≤ r (8 + 20 * i + 3)
    · simp only [if_pos hh]
      rw [m_of10 hN hi, bd_n]
      by_cases h10 : r (8 + 20 * i + 10) = 3
      · have : ¬ r (8 + 20 * i + 10) < 3 := by rw [e10, lt3 hla, ← e10]; exact fun q => q h10
        simp only [if_neg this]
        rw [if_pos h10, m_trip hN hi h6 ht, bd_n, if_neg (show ¬ (4 : Int32) = 2 by decide), if_neg (show ¬ (5 : Int32) = 0 by decide)]
      · have : r (8 + 20 * i + 10) < 3 := by rw [e10, lt3 hla, ← e10]; exact h10
        simp only [if_pos this]
        rw [if_neg h10, m_of5 hN hi, bd_n]
        rcases hm with h5 | h5
        · have n3 : ¬ r (8 + 20 * i + 5) = 3 := by rw [h5]; decide
          simp only [if_neg n3]
          rw [if_pos h5, m_more8 hN hi, bd_n, m_of8 hN hi, bd_n, m_of1 hN hi, bd_n, up_s, up_o _ _ (show 8 + 20 * i + 1 ≠ 8 + 20 * i + 8 by omega)]
          have hs := hsc h5
          by_cases hx : sc + 1 = rm
          · have c1 : r (8 + 20 * i + 8) + 1 = r (8 + 20 * i + 1) := by rw [e8, e1, nI_1, hx]
            have c2 : r (8 + 20 * i + 1) ≤ r (8 + 20 * i + 8) + 1 := by rw [c1]; exact Int32.le_refl _
            simp only [if_pos c2]
            rw [if_pos c1, m_put5 hN hi, bd_n, m_note hN (t := t) (by rw [up_o _ _ (by omega), up_o _ _ (by omega)]; exact h6) ht, bd_n, if_neg (show ¬ (2 : Int32) = 0 by decide)]
          · have c1 : ¬ r (8 + 20 * i + 8) + 1 = r (8 + 20 * i + 1) := by
              rw [e8, e1, nI_1]
              exact fun q => hx ((nI_eq (by omega) (by omega)).mp q)
            have c2 : ¬ r (8 + 20 * i + 1) ≤ r (8 + 20 * i + 8) + 1 := by
              rw [e8, e1, nI_1]
              exact nI_ge (by omega) (by omega)
            simp only [if_neg c2]
            rw [if_neg c1, if_pos trivial]
        · have n2 : ¬ r (8 + 20 * i + 5) = 2 := by rw [h5]; decide
          simp only [if_pos h5]
          rw [if_neg n2, if_pos trivial]
    · simp only [if_neg hh]
      rw [m_trip hN hi h6 ht, bd_n, if_pos rfl, if_neg (show ¬ (4 : Int32) = 0 by decide)]
-- the class
theorem c_cnt (hq : σ.2 q 1 = q + 1) (h : RM σ q r i) : ∃ σ', f_X2_countSecond σ q = some (0, σ') ∧ σ'.2 = σ.2 ∧ (∀ b, b ≠ q → b ≠ q + 1 → σ'.1 b = σ.1 b) ∧ σ'.1 q 0 = σ.1 q 0 ∧ RM σ' q (cntR r i) i := by
  have k4 := h.2.2.2.2.2.2.2.2.2.2.2.2.1 4 (by omega)
  have k5 := h.2.2.2.2.2.2.2.2.2.2.2.2.1 5 (by omega)
  have k4' : r (8 + 20 * i + 16) = σ.1 (q + 1) 4 := k4
  have k5' : r (8 + 20 * i + 17) = σ.1 (q + 1) 5 := k5
  have n2 : q ≠ q + 1 := by omega
  unfold f_X2_countSecond
  rw [c_turns h, bd_n, ← h.2.2.2.2.2.1]
  by_cases hT : turnR r i = 0
  · rw [if_pos hT]
    by_cases hw : r (8 + 20 * i + 5) = 1
    · rw [if_pos hw, hq, lt_n, ← k5']
      refine ⟨_, rfl, rfl, fun b h1 h2 => wi_o _ _ _ h2, by rw [wi_o _ _ _ n2], ?_⟩
      unfold cntR
      rw [if_pos hT, if_pos hw, Int32.add_zero, up_id]
      exact h.acc (w := 5) _ (by omega)
    · rw [if_neg hw]
      refine ⟨_, rfl, rfl, fun b h1 h2 => rfl, rfl, ?_⟩
      unfold cntR
      rw [if_pos hT, if_neg hw, Int32.add_zero, up_id, Int32.add_zero, up_id]
      exact h
  · have hw : ¬ r (8 + 20 * i + 5) = 1 := fun e => by
      unfold turnR at hT
      rw [e, if_neg (by decide), if_neg (by decide)] at hT
      exact hT rfl
    rw [if_neg hT, hq, lt_n, ← k4']
    refine ⟨_, rfl, rfl, fun b h1 h2 => wi_o _ _ _ h2, by rw [wi_o _ _ _ n2], ?_⟩
    unfold cntR
    rw [if_neg hT, if_neg hw, Int32.add_zero]
    have e1 : r (8 + 20 * i + 17) = upd r (8 + 20 * i + 16) (r (8 + 20 * i + 16) + 1) (8 + 20 * i + 17) := (up_o _ _ (by omega)).symm
    rw [e1, up_id]
    exact h.acc (w := 4) _ (by omega)
theorem c_exch (hq : σ.2 q 1 = q + 1) (h : RM σ q r i) (hI : IM r ck i) (hf : r 3 = 0 ∨ r 3 = 1) : ∃ σ', f_X2_exchangeHeat σ q (r 3) = some (0, σ') ∧ σ'.2 = σ.2 ∧ (∀ b, b ≠ q → b ≠ q + 1 → σ'.1 b = σ.1 b) ∧ σ'.1 q 0 = σ.1 q 0 ∧ RM σ' q (exR r i (turnR r i)) i := by
  have k0 : r (8 + 20 * i + 12) = σ.1 (q + 1) 0 := h.2.2.2.2.2.2.2.2.2.2.2.2.1 0 (by omega)
  have k1 : r (8 + 20 * i + 13) = σ.1 (q + 1) 1 := h.2.2.2.2.2.2.2.2.2.2.2.2.1 1 (by omega)
  have k6 := h.2.2.2.2.2.2.1
  have n1 : q + 1 ≠ q := by omega
  have n2 : q ≠ q + 1 := by omega
  unfold f_X2_exchangeHeat
  rw [c_draw h hI, bd_n, c_heatOf, bd_n, lt_n, ← h.2.2.2.2.2.2.2.1]
  have key : ∀ x : Int32, x = exX r i → ∃ σ', (lt_ (bz_wi σ q 9 ((σ.1 q 9) + x)) fun σ8 => bd_ (f_X2_turns σ8 q) fun r9 σ10 => bd_ (f_X6_givenOff σ10 (σ8.1 q 9) r9 (r 3)) fun r11 σ12 => lt_ (bz_wi σ12 q 9 ((σ12.1 q 9) - r11)) fun σ13 => lt_ (bz_wi σ13 (σ13.2 q 1) 0 ((σ13.1 (σ13.2 q 1) 0) + x)) fun σ15 => lt_ (bz_wi σ15 (σ15.2 q 1) 1 ((σ15.1 (σ15.2 q 1) 1) + r11)) fun σ17 => some ((0 : Int32), σ17)) = some (0, σ') ∧ σ'.2 = σ.2 ∧ (∀ b, b ≠ q → b ≠ q + 1 → σ'.1 b = σ.1 b) ∧ σ'.1 q 0 = σ.1 q 0 ∧ RM σ' q (exR r i (turnR r i)) i := by
    intro x hx
    have R1 := h.set (F := 9) (w := 6) (r (8 + 20 * i + 6) + x) (by omega)
    have eT : turnR (upd r (8 + 20 * i + 6) (r (8 + 20 * i + 6) + x)) i = turnR r i := by
      unfold turnR
      rw [up_o _ _ (by omega)]
    rw [← k6, lt_n, c_turns R1, bd_n, eT, wi_ss, c_givenOff hf, bd_n, lt_n, lt_n, lt_n]
    have eG : (r (8 + 20 * i + 6) + x) * rateR (turnR r i) (r 3) / 1000 = exG r i (turnR r i) := by unfold exG; rw [hx]
    simp only [eG, wi_2, hq, wi_ss]
    rw [wi_o _ _ _ n1, wi_o _ _ _ n1, wi_so _ _ (show 1 ≠ 0 by omega), wi_o _ _ _ n1, wi_o _ _ _ n1, ← k0, ← k1]
    have R2 := R1.set (F := 9) (w := 6) (r (8 + 20 * i + 6) + x - exG r i (turnR r i)) (by omega)
    rw [up_up] at R2
    have R3 := (R2.acc (w := 0) (r (8 + 20 * i + 12) + x) (by omega)).acc (w := 1) (r (8 + 20 * i + 13) + exG r i (turnR r i)) (by omega)
    refine ⟨_, rfl, rfl, fun b h1 h2 => by rw [wi_o _ _ _ h2, wi_o _ _ _ h2, wi_o _ _ _ h1, wi_o _ _ _ h1], by rw [wi_o _ _ _ n2, wi_o _ _ _ n2, wi_so _ _ (by omega), wi_so _ _ (by omega)], ?_⟩
    unfold exR
    rw [← hx]
    exact R3
  by_cases h7 : r (8 + 20 * i + 7) = 0
  · rw [if_pos h7]
    exact key _ (by unfold exX; rw [if_pos h7, Int32.mul_one])
  · rw [if_neg h7, lt_n]
    exact key _ (by unfold exX; rw [if_neg h7])
theorem c_end (hq : σ.2 q 1 = q + 1) (h : RM σ q r i) : ∃ σ', f_X2_endSecond σ q = some (endC (upd r (8 + 20 * i + 10) (laR r i)) i (turnR r i), σ') ∧ σ'.2 = σ.2 ∧ (∀ b, b ≠ q → b ≠ q + 1 → σ'.1 b = σ.1 b) ∧ σ'.1 q 0 = σ.1 q 0 ∧ RM σ' q (endR (upd r (8 + 20 * i + 10) (laR r i)) i (turnR r i)) i := by
  have n1 : q + 1 ≠ q := by omega
  have n2 : q ≠ q + 1 := by omega
  unfold f_X2_endSecond
  rw [lt_n, lt_n, ← h.2.2.2.2.2.1, ← h.2.2.2.2.2.2.2.1, ← h.2.2.2.2.2.2.2.2.2.2.1]
  have key : ∀ y : Int32, y = laR r i → ∃ σ', (lt_ (bz_wi σ q 14 y) fun σ4 => bd_ (f_X2_turns σ4 q) fun r5 σ6 => if r5 = 0 then some (0, σ6) else if (σ6.1 q 9) ≤ (σ6.1 q 5) then if (σ6.1 q 14) < 3 then if (σ6.1 q 8) = 3 then some (0, σ6) else lt_ (bz_wi σ6 q 11 ((σ6.1 q 11) + 1)) fun σ11 => if (σ11.1 q 3) ≤ (σ11.1 q 11) then lt_ (bz_wi σ11 q 8 3) fun σ13 => some ((2 : Int32), σ13) else some (0, σ11) else bd_ (f_X2_trip σ6 q 4) fun r14 σ15 => some (r14, σ15) else bd_ (f_X2_trip σ6 q 2) fun r16 σ17 => some (r16, σ17)) = some (endC (upd r (8 + 20 * i + 10) (laR r i)) i (turnR r i), σ') ∧ σ'.2 = σ.2 ∧ (∀ b, b ≠ q → b ≠ q + 1 → σ'.1 b = σ.1 b) ∧ σ'.1 q 0 = σ.1 q 0 ∧ RM σ' q (endR (upd r (8 + 20 * i + 10) (laR r i)) i (turnR r i)) i := by
    intro y hy
    have R1 := h.set (F := 14) (w := 10) y (by omega)
    have eT : turnR (upd r (8 + 20 * i + 10) y) i = turnR r i := by
      unfold turnR
      rw [up_o _ _ (by omega)]
    rw [lt_n, c_turns R1, bd_n, eT, ← hy]
    obtain ⟨s, hs⟩ : ∃ s, s = bz_wi σ q 14 y := ⟨_, rfl⟩
    obtain ⟨r', hr'⟩ : ∃ r', r' = upd r (8 + 20 * i + 10) y := ⟨_, rfl⟩
    rw [← hs, ← hr'] at R1 ⊢
    have s2 : s.2 = σ.2 := by rw [hs]; rfl
    have sf : ∀ b, b ≠ q → s.1 b = σ.1 b := fun b hb => by rw [hs, wi_o _ _ _ hb]
    have s0 : s.1 q 0 = σ.1 q 0 := by rw [hs, wi_so _ _ (by omega)]
    have hq' : s.2 q 1 = q + 1 := by rw [s2]; exact hq
    obtain ⟨-, f1, -, f3, -, f5, f6, -, f8, -, f10, -⟩ := id R1
    unfold endC endR
    rw [← f6, ← f3, ← f10, ← f5, ← f8]
    by_cases h0 : turnR r i = 0
    · simp only [if_pos h0]
      exact ⟨s, rfl, s2, fun b h1 h2 => sf b h1, s0, R1⟩
    · simp only [if_neg h0]
      by_cases hh : r' (8 + 20 * i + 6) ≤ r' (8 + 20 * i + 3)
      · simp only [if_pos hh]
        by_cases hl : r' (8 + 20 * i + 10) < 3
        · simp only [if_pos hl]
          by_cases h3 : r' (8 + 20 * i + 5) = 3
          · simp only [if_pos h3]
            exact ⟨s, rfl, s2, fun b h1 h2 => sf b h1, s0, R1⟩
          · simp only [if_neg h3]
            rw [lt_n, wi_ss, wi_so _ _ (show 3 ≠ 11 by omega), ← f1]
            have R2 := R1.set (F := 11) (w := 8) (r' (8 + 20 * i + 8) + 1) (by omega)
            by_cases hx : r' (8 + 20 * i + 1) ≤ r' (8 + 20 * i + 8) + 1
            · simp only [if_pos hx]
              rw [lt_n]
              exact ⟨_, rfl, s2, fun b h1 h2 => by rw [wi_o _ _ _ h1, wi_o _ _ _ h1]; exact sf b h1, by rw [wi_so _ _ (by omega), wi_so _ _ (by omega)]; exact s0, R2.set (F := 8) (w := 5) 3 (by omega)⟩
            · simp only [if_neg hx]
              exact ⟨_, rfl, s2, fun b h1 h2 => by rw [wi_o _ _ _ h1]; exact sf b h1, by rw [wi_so _ _ (by omega)]; exact s0, R2⟩
        · simp only [if_neg hl]
          obtain ⟨σ', g1, g2, g3, g4, g5⟩ := c_trip (w := 4) hq' R1
          rw [g1, bd_n, if_neg (show ¬ (4 : Int32) = 2 by decide)]
          exact ⟨σ', rfl, g2.trans s2, fun b h1 h2 => (g3 b h1 h2).trans (sf b h1), g4.trans s0, g5⟩
      · simp only [if_neg hh]
        obtain ⟨σ', g1, g2, g3, g4, g5⟩ := c_trip (w := 2) hq' R1
        rw [g1, bd_n, if_pos rfl]
        exact ⟨σ', rfl, g2.trans s2, fun b h1 h2 => (g3 b h1 h2).trans (sf b h1), g4.trans s0, g5⟩
  by_cases h3 : r (8 + 20 * i + 5) = 3
  · rw [if_pos h3]
    by_cases h7 : r (8 + 20 * i + 7) = 0
    · rw [if_pos h7]
      dsimp only
      exact key 0 (by unfold laR; rw [if_pos h3, if_pos h7])
    · rw [if_neg h7]
      exact key _ (by unfold laR; rw [if_pos h3, if_neg h7])
  · rw [if_neg h3]
    dsimp only
    exact key 0 (by unfold laR; rw [if_neg h3])
end HT
