/-! what is told of a row, and that telling changes nothing -/
theorem St.tight {σ1 σ : bz_W} {a a2 : Nat} {r : Nat → Int32} {C T C' T' : Nat} (h : St σ1 a r C' T') (h0 : St σ a2 r C T) : St σ1 a r C T := by
  obtain ⟨cnt, ck, t, sz, nx, hS, hI, -, -⟩ := h
  obtain ⟨cnt2, ck2, t2, sz2, nx2, hS2, hI2, c2, d2⟩ := h0
  have b1 := hI.2.1
  have b2 := hI2.2.1
  have b3 := hI.2.2.1
  have b4 := hI2.2.2.1
  have e1 : ck = ck2 := (nI_eq (by omega) (by omega)).mp (hS.2.1.2.symm.trans hS2.2.1.2)
  have e2 : t = t2 := (nI_eq (by omega) (by omega)).mp (hS.2.2.2.1.2.symm.trans hS2.2.2.2.1.2)
  exact ⟨cnt, ck, t, sz, nx, hS, hI, by omega, by omega⟩
theorem Rel.tight {z C T C' T' : Nat} {σ1 σ τ : bz_W} (h : Rel z C' T' σ1 τ) (h0 : Rel z C T σ τ) : Rel z C T σ1 τ := by
  obtain ⟨hs, n, p1, p2, p3, p4, p5, p6, ⟨n4, n1, n2, n3⟩, p8, p9⟩ := h
  obtain ⟨hs0, n0, q1, q2, q3, q4, q5, q6, ⟨m4, m1, m2, m3⟩, q8, q9⟩ := h0
  have e : n = n0 := (nI_eq (by omega) (by omega)).mp (n2.symm.trans m2)
  subst e
  refine ⟨hs, n, p1, p2, p3, p4.tight q4, p5, p6, ⟨n4, n1, n2, fun j hj => (n3 j hj).tight (m3 j hj)⟩, ?_, p9⟩
  rcases p8 with a | ⟨a1, a2, a3⟩
  · exact Or.inl a
  · rcases q8 with b | ⟨b1, b2, b3⟩
    · exact absurd (b.2.symm.trans a2) (by decide)
    · exact Or.inr ⟨a1, a2, a3.tight b3⟩
theorem rd_go {z k : Nat} {σ τ : bz_W} {f g : Option (Int32 × bz_W)} {v : Int32} (hs : ∃ v σ1 τ1, f = some (v, σ1) ∧ g = some (v, τ1) ∧ bz_Rel z (k + 1) σ1 τ1 ∧ σ1 = σ) (hg : g = some (v, τ)) : f = some (v, σ) := by
  obtain ⟨v', σ1, τ1, e1, e2, h1, rfl⟩ := hs
  obtain ⟨rfl, rfl⟩ := Prod.mk.inj (Option.some.inj (e2.symm.trans hg))
  exact e1
theorem act_go {z k : Nat} {τ1 : bz_W} {f g : Option (Int32 × bz_W)} {v : Int32} (hs : ∃ v σ1 τ1, f = some (v, σ1) ∧ g = some (v, τ1) ∧ bz_Rel z (k + 1) σ1 τ1) (hg : g = some (v, τ1)) : ∃ σ1, f = some (v, σ1) ∧ bz_Rel z (k + 1) σ1 τ1 := by
  obtain ⟨v', σ1, τ1', e1, e2, h1⟩ := hs
  obtain ⟨rfl, rfl⟩ := Prod.mk.inj (Option.some.inj (e2.symm.trans hg))
  exact ⟨σ1, e1, h1⟩
/-- the row of a bay: so many motors, its clock, its events -/
def RF (r : Nat → Int32) (cnt ck t : Nat) : Prop := r 0 = nI cnt ∧ r 1 = nI ck ∧ r 6 = nI t ∧ cnt ≤ 8 ∧ ck < 2 ^ 30 ∧ t < 2 ^ 30 ∧ (r 3 = 0 ∨ r 3 = 1) ∧ ∀ i, i < cnt → IM r ck i
def motV (r : Nat → Int32) (i w : Nat) : Int32 := if w = 8 then (if r (8 + 20 * i + 5) = 2 then r (8 + 20 * i + 8) else -4) else if w = 9 then (if r (8 + 20 * i + 5) = 1 then r 1 - r (8 + 20 * i + 9) else -4) else if w = 10 then drawR r i else if w = 11 then (if r (8 + 20 * i + 5) = 4 then r (8 + 20 * i + 11) else -4) else if w = 12 then (if 0 ≤ credR r i then credR r i else 0) else r (8 + 20 * i + w)
theorem motV5 (r : Nat → Int32) (i : Nat) : motV r i 5 = r (8 + 20 * i + 5) := rfl
theorem motV8 (r : Nat → Int32) (i : Nat) : motV r i 8 = if r (8 + 20 * i + 5) = 2 then r (8 + 20 * i + 8) else -4 := rfl
theorem motV9 (r : Nat → Int32) (i : Nat) : motV r i 9 = if r (8 + 20 * i + 5) = 1 then r 1 - r (8 + 20 * i + 9) else -4 := rfl
theorem motV11 (r : Nat → Int32) (i : Nat) : motV r i 11 = if r (8 + 20 * i + 5) = 4 then r (8 + 20 * i + 11) else -4 := rfl
theorem motV12 (r : Nat → Int32) (i : Nat) : motV r i 12 = if 0 ≤ credR r i then credR r i else 0 := rfl
def evV (r : Nat → Int32) (e w : Nat) : Int32 := if e < vN (r 6) then r (216 + 3 * ((vN (r 6) - 1 - e) % 10) + w) else -4
def cntV (r : Nat → Int32) (cnt : Nat) (ρ ns : Int32) (w : Nat) : Int32 := if w = 0 then r 0 else if w < 5 then fsum (fun i => if r (8 + 20 * i + 5) = nI w then 1 else 0) cnt else if w = 5 then r 1 else if w = 6 then r 2 else if w = 7 then r 3 else if w = 8 then ρ else if w = 9 then r 4 else if w = 10 then r 5 else if w = 11 then fsum (fun i => r (8 + 20 * i + 12)) cnt else if w = 12 then fsum (fun i => r (8 + 20 * i + 13)) cnt else if w = 13 then fsum (fun i => r (8 + 20 * i + 6)) cnt else if w = 14 then fsum (drawR r) cnt else if w = 15 then r 6 else if w = 16 then ns else -2
section MV
variable {τ : bz_W} {M N i e cnt ck t w : Nat} {r : Nat → Int32}
theorem mv_motor (hN : τ.2 M 0 = N) (h : RF r cnt ck t) (hi : i < cnt) (hw : w ≤ 12) : f_X7_motor (bz_wb τ N r) M (nI i) (nI w) = some (motV r i w, bz_wb τ N r) := by
  obtain ⟨h0, h1, -, hc, -, -, -, hI⟩ := h
  have hi8 : i < 8 := by omega
  have hr := (hI i hi).ramp0
  unfold f_X7_motor
  rw [m_noY hN hc h0 hi, bd_s, if_pos rfl, m_of5 hN hi8, bd_s]
  rcases (show w = 0 ∨ w = 1 ∨ w = 2 ∨ w = 3 ∨ w = 4 ∨ w = 5 ∨ w = 6 ∨ w = 7 ∨ w = 8 ∨ w = 9 ∨ w = 10 ∨ w = 11 ∨ w = 12 by omega) with rfl | rfl | rfl | rfl | rfl | rfl | rfl | rfl | rfl | rfl | rfl | rfl | rfl
  · exact congrArg (fun q => bd_ q fun r8 σ9 => some (r8, σ9)) (m_of0 (r := r) hN hi8)
  · exact congrArg (fun q => bd_ q fun r8 σ9 => some (r8, σ9)) (m_of1 (r := r) hN hi8)
  · exact congrArg (fun q => bd_ q fun r8 σ9 => some (r8, σ9)) (m_of2 (r := r) hN hi8)
  · exact congrArg (fun q => bd_ q fun r8 σ9 => some (r8, σ9)) (m_of3 (r := r) hN hi8)
  · exact congrArg (fun q => bd_ q fun r8 σ9 => some (r8, σ9)) (m_of4 (r := r) hN hi8)
  · exact congrArg (fun q => bd_ q fun r8 σ9 => some (r8, σ9)) (m_of5 (r := r) hN hi8)
  · exact congrArg (fun q => bd_ q fun r8 σ9 => some (r8, σ9)) (m_of6 (r := r) hN hi8)
  · exact congrArg (fun q => bd_ q fun r8 σ9 => some (r8, σ9)) (m_of7 (r := r) hN hi8)
  · show (if r (8 + 20 * i + 5) = 2 then bd_ (f_X7_of (bz_wb τ N r) M (nI i) 8) fun r20 σ21 => some (r20, σ21) else some ((-4), bz_wb τ N r)) = _
    rw [m_of8 hN hi8, bd_s]
    rw [motV8]
    split <;> rfl
  · show (if r (8 + 20 * i + 5) = 1 then bd_ (f_X7_waitedOf (bz_wb τ N r) M (nI i)) fun r20 σ21 => some (r20, σ21) else some ((-4), bz_wb τ N r)) = _
    rw [m_waited hN hi8, bd_s]
    rw [motV9]
    split <;> rfl
  · show (bd_ (f_X7_draws (bz_wb τ N r) M (nI i)) fun r20 σ21 => some (r20, σ21)) = _
    rw [m_draws hN hi8 hr, bd_s]
    rfl
  · show (if r (8 + 20 * i + 5) = 4 then bd_ (f_X7_of (bz_wb τ N r) M (nI i) 11) fun r20 σ21 => some (r20, σ21) else some ((-4), bz_wb τ N r)) = _
    rw [m_of11 hN hi8, bd_s]
    rw [motV11]
    split <;> rfl
  · show (bd_ (f_X7_credit (bz_wb τ N r) M (nI i)) fun r34 σ35 => if 0 ≤ r34 then bd_ (f_X7_credit σ35 M (nI i)) fun r37 σ38 => some (r37, σ38) else some (0, σ35)) = _
    rw [m_credit hN hi8, bd_s, m_credit hN hi8, bd_s]
    rw [motV12]
    split <;> rfl
theorem mv_motorN (hN : τ.2 M 0 = N) (h : RF r cnt ck t) (x : Int32) : f_X7_motor (bz_wb τ N r) M (nI cnt) x = some (-1, bz_wb τ N r) := by
  unfold f_X7_motor
  rw [m_noN hN h.2.2.2.1 h.1 (Or.inr (Int32.le_refl _)), bd_s]
  rfl
theorem mv_account (hN : τ.2 M 0 = N) (h : RF r cnt ck t) (hi : i < cnt) (hw : w ≤ 6) : f_X7_account (bz_wb τ N r) M (nI i) (nI w) = some (r (8 + 20 * i + (12 + w)), bz_wb τ N r) := by
  obtain ⟨h0, h1, -, hc, -, -, -, hI⟩ := h
  unfold f_X7_account
  rw [m_noY hN hc h0 hi, bd_s, if_pos rfl, m_in, bd_s, if_neg (nI_pos (by omega)), if_neg (show ¬ (6 : Int32) < nI w from nI_nlt (a := 6) (by omega) (by omega)), if_neg (by decide), m_of hN (by omega) (12 + w) (by omega) (x := 12 + nI w) (nI_add 12 w), bd_s]
theorem mv_start (hN : τ.2 M 0 = N) (h : RF r cnt ck t) (hi : i < cnt) : f_X7_startHeat (bz_wb τ N r) M (nI i) = some (needR r i, bz_wb τ N r) := by
  obtain ⟨h0, h1, -, hc, -, -, -, hI⟩ := h
  unfold f_X7_startHeat
  rw [m_noY hN hc h0 hi, bd_s, if_pos rfl, m_need hN (by omega) (hI i hi), bd_s]
theorem mv_why (hN : τ.2 M 0 = N) (h : RF r cnt ck t) (hi : i < cnt) : f_X7_whyNot (bz_wb τ N r) M (nI i) = some (if r (8 + 20 * i + 5) = 1 then agR r cnt i else -4, bz_wb τ N r) := by
  obtain ⟨h0, h1, -, hc, -, -, -, hI⟩ := h
  unfold f_X7_whyNot
  rw [m_noY hN hc h0 hi, bd_s, if_pos rfl, m_waits hN (by omega), bd_s]
  by_cases h5 : r (8 + 20 * i + 5) = 1
  · rw [if_pos h5, if_neg (by decide), m_against hN h0 hc hI hi, bd_s, if_pos h5]
  · rw [if_neg h5, if_pos rfl, if_neg h5]
theorem mv_event (hN : τ.2 M 0 = N) (h : RF r cnt ck t) (he : e < 10) (hw : w ≤ 2) : f_X7_event (bz_wb τ N r) M (nI e) (nI w) = some (evV r e w, bz_wb τ N r) := by
  obtain ⟨h0, h1, h6, hc, -, ht, -, hI⟩ := h
  unfold f_X7_event evV
  have e2 : vN (r 6) = t := by rw [h6]; exact vN_nI (by omega)
  rw [if_neg (nI_pos (by omega)), m_in, bd_s, if_neg (nI_pos (by omega)), if_neg (show ¬ (2 : Int32) < nI w from nI_nlt (a := 2) (by omega) (by omega)), if_neg (by decide), if_neg (show ¬ (10 : Int32) ≤ nI e from nI_ge (b := 10) (by omega) (by omega)), wb_2, hN, wb_s, e2, h6]
  by_cases hlt : e < t
  · rw [if_pos (nI_lt hlt (by omega)), if_pos hlt, show (1 : Int32) = nI 1 from rfl, pk_sub2 (by omega), pk_sub2 (by omega), rem10 (by omega), ix_e]
    have hm : (t - 1 - e) % 10 < 10 := Nat.mod_lt _ (by omega)
    obtain ⟨m, em⟩ : ∃ m, m = (t - 1 - e) % 10 := ⟨_, rfl⟩
    rw [← em] at hm ⊢
    rw [in_nI (show 216 + 3 * m + w < 246 by omega) (by omega), ck_t, nI_clamp (by omega)]
  · rw [if_neg (nI_nlt (by omega) (by omega)), if_neg hlt]
theorem mv_count (hN : τ.2 M 0 = N) (hNM : M ≠ N) (h : RF r cnt ck t) (hw : w ≤ 16) : f_X7_count (bz_wb τ N r) M (nI w) = some (cntV r cnt (τ.1 M 5) (τ.1 M 2) w, bz_wb τ N r) := by
  obtain ⟨h0, h1, h6, hc, -, ht, -, hI⟩ := h
  have mm := m_mode (τ := τ) hN h0 hc
  rcases (show w = 0 ∨ w = 1 ∨ w = 2 ∨ w = 3 ∨ w = 4 ∨ w = 5 ∨ w = 6 ∨ w = 7 ∨ w = 8 ∨ w = 9 ∨ w = 10 ∨ w = 11 ∨ w = 12 ∨ w = 13 ∨ w = 14 ∨ w = 15 ∨ w = 16 by omega) with rfl | rfl | rfl | rfl | rfl | rfl | rfl | rfl | rfl | rfl | rfl | rfl | rfl | rfl | rfl | rfl | rfl
  · show some ((bz_wb τ N r).1 (τ.2 M 0) 0, bz_wb τ N r) = _
    rw [hN, wb_s]; rfl
  · show (bd_ (f_X7_inMode (bz_wb τ N r) M (nI 1)) fun r3 σ4 => some (r3, σ4)) = _
    rw [mm, bd_s]; rfl
  · show (bd_ (f_X7_inMode (bz_wb τ N r) M (nI 2)) fun r3 σ4 => some (r3, σ4)) = _
    rw [mm, bd_s]; rfl
  · show (bd_ (f_X7_inMode (bz_wb τ N r) M (nI 3)) fun r3 σ4 => some (r3, σ4)) = _
    rw [mm, bd_s]; rfl
  · show (bd_ (f_X7_inMode (bz_wb τ N r) M (nI 4)) fun r3 σ4 => some (r3, σ4)) = _
    rw [mm, bd_s]; rfl
  · show some ((bz_wb τ N r).1 (τ.2 M 0) 1, bz_wb τ N r) = _
    rw [hN, wb_s]; rfl
  · show some ((bz_wb τ N r).1 (τ.2 M 0) 2, bz_wb τ N r) = _
    rw [hN, wb_s]; rfl
  · show some ((bz_wb τ N r).1 (τ.2 M 0) 3, bz_wb τ N r) = _
    rw [hN, wb_s]; rfl
  · show some ((bz_wb τ N r).1 M 5, bz_wb τ N r) = _
    rw [wb_o _ _ hNM]; rfl
  · show some ((bz_wb τ N r).1 (τ.2 M 0) 4, bz_wb τ N r) = _
    rw [hN, wb_s]; rfl
  · show some ((bz_wb τ N r).1 (τ.2 M 0) 5, bz_wb τ N r) = _
    rw [hN, wb_s]; rfl
  · show (bd_ (f_X7_sumOf (bz_wb τ N r) M (nI 12)) fun r3 σ4 => some (r3, σ4)) = _
    rw [m_sumOf (w := 12) hN h0 hc (by omega), bd_s]; rfl
  · show (bd_ (f_X7_sumOf (bz_wb τ N r) M (nI 13)) fun r3 σ4 => some (r3, σ4)) = _
    rw [m_sumOf (w := 13) hN h0 hc (by omega), bd_s]; rfl
  · show (bd_ (f_X7_sumOf (bz_wb τ N r) M (nI 6)) fun r3 σ4 => some (r3, σ4)) = _
    rw [m_sumOf (w := 6) hN h0 hc (by omega), bd_s]; rfl
  · show (bd_ (f_X7_allDraw (bz_wb τ N r) M) fun r3 σ4 => some (r3, σ4)) = _
    rw [m_allDraw hN h0 hc hI, bd_s]; rfl
  · show some ((bz_wb τ N r).1 (τ.2 M 0) 6, bz_wb τ N r) = _
    rw [hN, wb_s]; rfl
  · show some ((bz_wb τ N r).1 M 2, bz_wb τ N r) = _
    rw [wb_o _ _ hNM]; rfl
theorem mv_count18 : f_X7_count τ M 18 = some (-2, τ) := rfl
end MV
/-- a bay in its relation; its row's facts -/
def WR (z k cnt ck t : Nat) (σ τ : bz_W) : Prop := bz_Rel z k σ τ ∧ k < 512 ∧ RF (τ.1 (z + 174)) cnt ck t
theorem Rel.rf {z k : Nat} {σ τ : bz_W} (h : bz_Rel z k σ τ) : ∃ cnt ck t, RF (τ.1 (z + 174)) cnt ck t ∧ ck ≤ 60 * k ∧ t ≤ 1000 * k := by
  obtain ⟨cnt, ck, t, sz, nx, ⟨-, -, -, hS, hI, -, -⟩, hN, -, -, c1, c2⟩ := Rel.nw h
  exact ⟨cnt, ck, t, ⟨hS.1.2, hS.2.1.2, hS.2.2.2.1.2, hI.1, hI.2.1, hI.2.2.1, hI.2.2.2.2.2.1, hI.2.2.2.2.2.2.1⟩, c1, c2⟩
theorem Rel.hN {z C T : Nat} {σ τ : bz_W} (h : Rel z C T σ τ) : τ.2 (z + 173) 0 = z + 174 := by
  obtain ⟨cnt, ck, t, sz, nx, hw, hN, -⟩ := Rel.nw h
  exact hN
section RDS
variable {z k i e cnt ck t : Nat} {σ τ : bz_W} {x : Int32}
theorem rd_motor (h : WR z k cnt ck t σ τ) (hi : i < cnt) (w : Nat) (hw : w ≤ 12) (hx : x = nI w) : f_X6_motor σ z (nI i) x = some (motV (τ.1 (z + 174)) i w, σ) := by
  subst hx
  obtain ⟨h1, h2, h3⟩ := h
  exact rd_go (sm_motor h1 h2 (nI i) (nI w)) (by have e := mv_motor (τ := τ) (Rel.hN h1) h3 hi hw; rwa [wb_id] at e)
theorem rd_motorN (h : WR z k cnt ck t σ τ) (x : Int32) : f_X6_motor σ z (nI cnt) x = some (-1, σ) := by
  obtain ⟨h1, h2, h3⟩ := h
  exact rd_go (sm_motor h1 h2 (nI cnt) x) (by have e := mv_motorN (τ := τ) (Rel.hN h1) h3 x; rwa [wb_id] at e)
theorem rd_account (h : WR z k cnt ck t σ τ) (hi : i < cnt) (w : Nat) (hw : w ≤ 6) (hx : x = nI w) : f_X6_account σ z (nI i) x = some (τ.1 (z + 174) (8 + 20 * i + (12 + w)), σ) := by
  subst hx
  obtain ⟨h1, h2, h3⟩ := h
  exact rd_go (sm_account h1 h2 (nI i) (nI w)) (by have e := mv_account (τ := τ) (Rel.hN h1) h3 hi hw; rwa [wb_id] at e)
theorem rd_start (h : WR z k cnt ck t σ τ) (hi : i < cnt) : f_X6_startHeat σ z (nI i) = some (needR (τ.1 (z + 174)) i, σ) := by
  obtain ⟨h1, h2, h3⟩ := h
  exact rd_go (sm_startHeat h1 h2 (nI i)) (by have e := mv_start (τ := τ) (Rel.hN h1) h3 hi; rwa [wb_id] at e)
theorem rd_why (h : WR z k cnt ck t σ τ) (hi : i < cnt) : f_X6_whyNot σ z (nI i) = some (if τ.1 (z + 174) (8 + 20 * i + 5) = 1 then agR (τ.1 (z + 174)) cnt i else -4, σ) := by
  obtain ⟨h1, h2, h3⟩ := h
  exact rd_go (sm_whyNot h1 h2 (nI i)) (by have e := mv_why (τ := τ) (Rel.hN h1) h3 hi; rwa [wb_id] at e)
theorem rd_event (h : WR z k cnt ck t σ τ) (he : e < 10) (w : Nat) (hw : w ≤ 2) (hx : x = nI w) : f_X6_event σ z (nI e) x = some (evV (τ.1 (z + 174)) e w, σ) := by
  subst hx
  obtain ⟨h1, h2, h3⟩ := h
  exact rd_go (sm_event h1 h2 (nI e) (nI w)) (by have e := mv_event (τ := τ) (Rel.hN h1) h3 he hw; rwa [wb_id] at e)
theorem rd_count (h : WR z k cnt ck t σ τ) (w : Nat) (hw : w ≤ 16) (hx : x = nI w) : f_X6_count σ z x = some (cntV (τ.1 (z + 174)) cnt (τ.1 (z + 173) 5) (τ.1 (z + 173) 2) w, σ) := by
  subst hx
  obtain ⟨h1, h2, h3⟩ := h
  exact rd_go (sm_count h1 h2 (nI w)) (by have e := mv_count (τ := τ) (M := z + 173) (Rel.hN h1) (by omega) h3 hw; rwa [wb_id] at e)
theorem rd_count0 (h : WR z k cnt ck t σ τ) : f_X6_count σ z 0 = some (nI cnt, σ) := by
  exact (rd_count (x := 0) h 0 (by omega) rfl).trans (congrArg (fun v => some (v, σ)) h.2.2.1)
theorem rd_count18 (h : WR z k cnt ck t σ τ) : f_X6_count σ z 18 = some (-2, σ) := by
  obtain ⟨h1, h2, h3⟩ := h
  exact rd_go (sm_count h1 h2 18) mv_count18
/-- other cells don't matter -/
theorem Rel.cell {z C T : Nat} {σ σ' τ : bz_W} (h : Rel z C T σ τ) (h1 : ∀ x, z ≤ x → x < z + 172 → σ'.1 x = σ.1 x) (h2 : σ'.2 = σ.2) : Rel z C T σ' τ := by
  obtain ⟨hs, n, p1, p2, p3, p4, p5, p6, ⟨n4, n1, n2, n3⟩, p8, p9⟩ := h
  obtain ⟨a1, a2, a3⟩ := p5
  have hh : ∀ i, i < 4 → hs i < 4 := p1.1
  refine ⟨hs, n, p1, by rw [h2]; exact p2, p3, p4.keep (fun x g1 g2 => h1 x (by omega) (by omega)), ⟨a1.keep (fun x g1 g2 => h1 x (by omega) (by omega)), a2.keep (fun x g1 g2 => h1 x (by omega) (by omega)), fun i hi => (a3 i hi).keep (fun x g1 g2 => h1 x (by omega) (by omega))⟩, by rw [h1 z (by omega) (by omega)]; exact p6, ⟨n4, by rw [h1 (z + 28) (by omega) (by omega)]; exact n1, n2, fun j hj => (n3 j hj).keep (fun x g1 g2 => h1 x (by omega) (by have := hh j (by omega); omega))⟩, ?_, ?_⟩
  · rcases p8 with q | ⟨q1, q2, q3⟩
    · exact Or.inl ⟨by rw [h1 z (by omega) (by omega)]; exact q.1, q.2⟩
    · exact Or.inr ⟨by rw [h1 z (by omega) (by omega)]; exact q1, q2, q3.keep (fun x g1 g2 => h1 x (by omega) (by omega))⟩
  · obtain ⟨l, l1, l2, l3, l4⟩ := p9
    exact ⟨l, l1, by rw [h1 (z + 165) (by omega) (by omega)]; exact l2, l3, fun j hj => by rw [h1 (z + 166) (by omega) (by omega)]; exact l4 j hj⟩
theorem WR.cell {σ' : bz_W} (h : WR z k cnt ck t σ τ) (h1 : ∀ x, z ≤ x → x < z + 172 → σ'.1 x = σ.1 x) (h2 : σ'.2 = σ.2) : WR z k cnt ck t σ' τ := ⟨Rel.cell h.1 h1 h2, h.2.1, h.2.2⟩
theorem WR.wb (h : WR z k cnt ck t σ τ) {n : Nat} (hn : n < z ∨ z + 171 < n) (f : Nat → Int32) : WR z k cnt ck t (bz_wb σ n f) τ := h.cell (fun x g1 g2 => wb_o _ _ (by omega)) rfl
theorem WR.nw (h : WR z k cnt ck t σ τ) : ∃ sz nx, NW z σ (τ.1 (z + 174)) cnt ck t sz nx := by
  obtain ⟨h1, h2, h3⟩ := h
  obtain ⟨cnt2, ck2, t2, sz, nx, hw, hN, -⟩ := Rel.nw h1
  have b1 := hw.2.2.2.2.1.1
  have b2 := h3.2.2.2.1
  have b3 := hw.2.2.2.2.1.2.1
  have b4 := h3.2.2.2.2.1
  have b5 := hw.2.2.2.2.1.2.2.1
  have b6 := h3.2.2.2.2.2.1
  obtain rfl : cnt = cnt2 := (nI_eq (by omega) (by omega)).mp (h3.1.symm.trans hw.2.2.2.1.1.2)
  obtain rfl : ck = ck2 := (nI_eq (by omega) (by omega)).mp (h3.2.1.symm.trans hw.2.2.2.1.2.1.2)
  obtain rfl : t = t2 := (nI_eq (by omega) (by omega)).mp (h3.2.2.1.symm.trans hw.2.2.2.1.2.2.2.1.2)
  exact ⟨sz, nx, hw⟩
theorem WR.hN (h : WR z k cnt ck t σ τ) : τ.2 (z + 173) 0 = z + 174 := Rel.hN h.1
/-- the queue, as a list -/
theorem WR.line (h : WR z k cnt ck t σ τ) : ∃ l, LineOK (τ.1 (z + 174)) cnt l := by
  obtain ⟨sz, nx, hw⟩ := h.nw
  obtain ⟨f', l, -, hl, -⟩ := c_fill hw
  exact ⟨l, hl⟩
theorem rd_queue (h : WR z k cnt ck t σ τ) {l : List Nat} (hl : LineOK (τ.1 (z + 174)) cnt l) (p : Nat) (hp : p < 2 ^ 31) (hx : x = nI p) : ∃ g, f_X6_queue σ z x = some (wv l p, bz_wb σ (z + 172) g) := by
  subst hx
  obtain ⟨sz, nx, hw⟩ := h.nw
  obtain ⟨f', l', e1, hl', hf⟩ := c_fill hw
  have hN := h.hN
  have hlen := hl'.len
  have hc := h.2.2.2.2.2.1
  have e : wv l' p = wv l p := congrArg Prod.fst (Option.some.inj ((m_wat hw hN hl' hp).symm.trans (m_wat hw hN hl hp)))
  refine ⟨f', ?_⟩
  unfold f_X6_queue
  rw [if_pos (Int32.not_lt.mp (nI_pos hp)), e1, bd_s, ← e]
  unfold wv
  by_cases hpl : p < l'.length
  · rw [if_neg (nI_ge hpl (by omega)), if_pos hpl, in_nI (by omega) (by omega), ck_t, nI_clamp (by omega), wb_2, hw.2.2.2.2.2.2, wb_s, hf p hpl]
  · rw [if_pos (nI_le (by omega) hp), if_neg hpl]
theorem rd_queueM (σ : bz_W) (z : Nat) : f_X6_queue σ z (-1) = some (-2, σ) := if_neg (by decide)
end RDS
