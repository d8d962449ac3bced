/-! writes on the present state, on both sides; frames; the simple acts -/
def Fr (z : Nat) (σ σ' : bz_W) : Prop := σ'.2 = σ.2 ∧ (∀ x, (x < z ∨ z + 28 ≤ x) → x ≠ z + 172 → σ'.1 x = σ.1 x) ∧ (∀ w, w ≠ 7 → σ'.1 z w = σ.1 z w) ∧ ∀ i, i < 8 → σ'.1 (z + 1 + 2 + 2 * i) 0 = σ.1 (z + 1 + 2 + 2 * i) 0
def FrM (z : Nat) (τ τ' : bz_W) : Prop := τ'.2 = τ.2 ∧ (∀ x, x ≠ z + 173 → x ≠ z + 174 → τ'.1 x = τ.1 x) ∧ ∀ w, w ≠ 5 → τ'.1 (z + 173) w = τ.1 (z + 173) w
theorem Fr.refl (z : Nat) (σ : bz_W) : Fr z σ σ := ⟨rfl, fun _ _ _ => rfl, fun _ _ => rfl, fun _ _ => rfl⟩
theorem Fr.trans {z : Nat} {σ σ' σ2 : bz_W} (h : Fr z σ σ') (g : Fr z σ' σ2) : Fr z σ σ2 := ⟨g.1.trans h.1, fun x h1 h2 => (g.2.1 x h1 h2).trans (h.2.1 x h1 h2), fun w hw => (g.2.2.1 w hw).trans (h.2.2.1 w hw), fun i hi => (g.2.2.2 i hi).trans (h.2.2.2 i hi)⟩
theorem FrM.refl (z : Nat) (τ : bz_W) : FrM z τ τ := ⟨rfl, fun _ _ _ => rfl, fun _ _ => rfl⟩
theorem FrM.trans {z : Nat} {σ σ' σ2 : bz_W} (h : FrM z σ σ') (g : FrM z σ' σ2) : FrM z σ σ2 := ⟨g.1.trans h.1, fun x h1 h2 => (g.2.1 x h1 h2).trans (h.2.1 x h1 h2), fun w hw => (g.2.2 w hw).trans (h.2.2 w hw)⟩
/-- a write below the name, in a cell of the present state -/
theorem Fr.wi {z : Nat} {σ σ' : bz_W} (h : Fr z σ σ') {b k : Nat} (v : Int32) (hb : z < b ∧ b < z + 28) (hk : k ≠ 0 ∨ (b < z + 3 ∨ z + 18 < b) ∨ ∃ i, b = z + 1 + 2 + 2 * i + 1) : Fr z σ (bz_wi σ' b k v) := by
  refine h.trans ⟨rfl, fun x h1 h2 => wi_o _ _ _ (by omega), fun w hw => by rw [wi_o _ _ _ (by omega)], fun i hi => ?_⟩
  by_cases e : z + 1 + 2 + 2 * i = b
  · rcases hk with hk | hk | ⟨j, hk⟩
    · rw [e, wi_so _ _ (by omega)]
    · omega
    · omega
  · rw [wi_o _ _ _ e]
theorem FrM.wb (z : Nat) (τ : bz_W) (r : Nat → Int32) : FrM z τ (bz_wb τ (z + 174) r) := ⟨rfl, fun x h1 h2 => wb_o _ _ h2, fun w hw => by rw [wb_o _ _ (by omega)]⟩
theorem FrM.wi5 (z : Nat) (τ : bz_W) (x : Int32) : FrM z τ (bz_wi τ (z + 173) 5 x) := ⟨rfl, fun x h1 h2 => wi_o _ _ _ h1, fun w hw => wi_so _ _ hw⟩
theorem Rel.now {z C T C' T' : Nat} {σ τ σ' τ' : bz_W} (h : Rel z C T σ τ) (hF : Fr z σ σ') (hM : FrM z τ τ') (hS : St σ' (z + 1) (τ'.1 (z + 174)) C' T') (hr : σ'.1 z 7 = τ'.1 (z + 173) 5) (hC : C ≤ C') (hT : T ≤ T') : Rel z C' T' σ' τ' := by
  obtain ⟨hs, n, h1, h2, h3, h4, h5, h6, ⟨k1, k2, k3, k4⟩, h7, ⟨l, l1, l2, l3, l4⟩⟩ := h
  obtain ⟨f1, f2, f3, f4⟩ := hF
  obtain ⟨m1, m2, m3⟩ := hM
  have hb := h1.1
  refine ⟨hs, n, h1, by rw [f1]; exact h2, by rw [m1]; exact h3, hS, ⟨fun i hi => by rw [f4 i hi]; exact h5.1 i hi, h5.2.1.keep fun x a b => f2 x (by omega) (by omega), fun i hi => (h5.2.2 i hi).keep fun x a b => f2 x (by omega) (by omega)⟩, hr, ⟨k1, by rw [f2 _ (by omega) (by omega)]; exact k2, by rw [m3 _ (by omega)]; exact k3, fun j hj => ?_⟩, ?_, ⟨l, l1, by rw [f2 _ (by omega) (by omega)]; exact l2, by rw [m3 _ (by omega)]; exact l3, fun j hj => by rw [f2 _ (by omega) (by omega), m2 _ (by omega) (by omega)]; exact l4 j hj⟩⟩
  · have := hb j (by omega)
    rw [m2 _ (by omega) (by omega)]
    exact ((k4 j hj).keep fun x a b => f2 x (by omega) (by omega)).mono hC hT
  · unfold Snap at h7 ⊢
    rw [f3 3 (by omega), m3 4 (by omega), m2 (z + 176) (by omega) (by omega)]
    rcases h7 with q | ⟨q1, q2, q3⟩
    · exact Or.inl q
    · exact Or.inr ⟨q1, q2, (q3.keep fun x a b => f2 x (by omega) (by omega)).mono hC hT⟩
/-- a call that is refused with a reason -/
theorem Rel.refuse {z C T : Nat} {σ τ : bz_W} (h : Rel z C T σ τ) (x : Int32) : Rel z C T (bz_wi σ z 7 x) (bz_wi τ (z + 173) 5 x) := by
  obtain ⟨hs, n, -, -, -, h4, -⟩ := id h
  refine h.now ⟨rfl, fun x h1 h2 => wi_o _ _ _ ?_, fun w hw => wi_so _ _ hw, fun i hi => by rw [wi_o _ _ _ (by omega)]⟩ (FrM.wi5 z τ x) ?_ (by rw [wi_ss, wi_ss]) (Nat.le_refl _) (Nat.le_refl _)
  · rcases h1 with h1 | h1 <;> omega
  · rw [wi_o _ _ _ (by omega)]
    exact h4.keep fun x h1 h2 => wi_o _ _ _ (by omega)
theorem Rel.rec {z C T : Nat} {σ τ : bz_W} (h : Rel z C T σ τ) : ∃ σ' τ', f_X1_record σ (z + 28) (z + 1) = some (0, σ') ∧ f_X7_record τ (z + 173) = some (0, τ') ∧ Rel z C T σ' τ' ∧ (∀ x, (x < z + 28 ∨ z + 138 ≤ x) → σ'.1 x = σ.1 x ∧ σ'.2 x = σ.2 x) ∧ τ'.2 = τ.2 ∧ (∀ x, x ≠ z + 173 → x ≠ z + 175 → τ'.1 x = τ.1 x) ∧ ∀ w, w ≠ 2 → τ'.1 (z + 173) w = τ.1 (z + 173) w := by
  obtain ⟨hs, n, h1⟩ := h
  obtain ⟨hs', σ', τ', n', g1, g2, g3, g4⟩ := h1.record
  exact ⟨σ', τ', g1, g2, ⟨hs', n', g3⟩, g4⟩
section SET
variable {σ σ' : bz_W} {a q i cnt ck t sz nx : Nat} {r r' : Nat → Int32}
theorem RM.keep (h : RM σ q r i) (e1 : σ'.1 q = σ.1 q) (e2 : σ'.1 (q + 1) = σ.1 (q + 1)) (hr : ∀ w, w < 20 → r' (8 + 20 * i + w) = r (8 + 20 * i + w)) : RM σ' q r' i := by
  have := h.congr hr
  unfold RM at this ⊢
  rw [e1, e2]
  exact this
theorem RS.mot (h : RS σ a r cnt ck t sz nx) (e1 : ∀ x, (x < a + 2 ∨ a + 17 < x) → σ'.1 x = σ.1 x) (e2 : ∀ y, (y < 8 ∨ 168 ≤ y) → r' y = r y) (h' : ∀ i, i < cnt → RM σ' (a + 2 + 2 * i) r' i) : RS σ' a r' cnt ck t sz nx := by
  obtain ⟨⟨s0, r0⟩, ⟨s4, r1⟩, ⟨r2, r3, r5⟩, ⟨s23, r6⟩, ⟨s18, s18', r4⟩, hRM, hit, hev⟩ := h
  unfold RS
  rw [e1 a (by omega), e1 (a + 18) (by omega), e1 (a + 19) (by omega), e1 (a + 20) (by omega), e1 (a + 21) (by omega), e1 (a + 22) (by omega), e1 (a + 23) (by omega), e1 (a + 24) (by omega), e1 (a + 25) (by omega), e1 (a + 26) (by omega), e2 0 (by omega), e2 1 (by omega), e2 2 (by omega), e2 3 (by omega), e2 4 (by omega), e2 5 (by omega), e2 6 (by omega)]
  refine ⟨⟨s0, r0⟩, ⟨s4, r1⟩, ⟨r2, r3, r5⟩, ⟨s23, r6⟩, ⟨s18, s18', r4⟩, h', fun j hj => ?_, fun j hj => ?_⟩
  · rw [e2 _ (by omega), e2 _ (by omega), e2 _ (by omega), e2 _ (by omega)]
    exact hit j hj
  · rw [e2 _ (by omega), e2 _ (by omega), e2 _ (by omega)]
    exact hev j hj
/-- the writes of one motor: cells q and q+1, the row's twenty -/
theorem RS.mot1 (h : RS σ a r cnt ck t sz nx) (hc : cnt ≤ 8) (hi : i < 8) (e1 : ∀ x, x ≠ a + 2 + 2 * i → x ≠ a + 2 + 2 * i + 1 → σ'.1 x = σ.1 x) (e2 : ∀ y, (y < 8 + 20 * i ∨ 8 + 20 * i + 20 ≤ y) → r' y = r y) (h' : RM σ' (a + 2 + 2 * i) r' i) : RS σ' a r' cnt ck t sz nx := by
  refine h.mot (fun x hx => e1 x (by omega) (by omega)) (fun y hy => e2 y (by omega)) fun j hj => ?_
  by_cases e : j = i
  · subst e; exact h'
  · exact (h.2.2.2.2.2.1 j hj).keep (e1 _ (by omega) (by omega)) (e1 _ (by omega) (by omega)) fun w hw => e2 _ (by omega)
theorem IS.mot1 (h : IS r cnt ck t sz nx) (hi : i < 8) (e2 : ∀ y, (y < 8 + 20 * i ∨ 8 + 20 * i + 20 ≤ y) → r' y = r y) (h' : IM r' ck i) : IS r' cnt ck t sz nx := by
  obtain ⟨hc, hck, ht, hsz, hnx, hfan, hIM, hIT⟩ := h
  refine ⟨hc, hck, ht, hsz, hnx, by rw [e2 3 (by omega)]; exact hfan, fun j hj => ?_, fun j hj => (hIT j hj).congr fun w hw => e2 _ (by omega)⟩
  by_cases e : j = i
  · subst e; exact h'
  · exact (hIM j hj).congr fun w hw => e2 _ (by omega)
/-- what is neither a motor nor a count: limit, fan, reason counter, clock -/
theorem RS.hdr (h : RS σ a r cnt ck t sz nx) (hc : cnt ≤ 8) {ck' : Nat} (e1 : ∀ x, x ≠ a → σ'.1 x = σ.1 x) (e2 : ∀ y, (y = 0 ∨ y = 4 ∨ 6 ≤ y) → r' y = r y) (h3 : σ'.1 a 3 = σ.1 a 3) (h4 : σ'.1 a 4 = nI ck' ∧ r' 1 = nI ck') (h5 : r' 2 = σ'.1 a 5 ∧ r' 3 = σ'.1 a 6 ∧ r' 5 = σ'.1 a 7) : RS σ' a r' cnt ck' t sz nx := by
  obtain ⟨⟨s0, r0⟩, -, -, ⟨s23, r6⟩, ⟨s18, s18', r4⟩, hRM, hit, hev⟩ := h
  refine ⟨⟨by rw [h3, s0], by rw [e2 0 (by omega), r0]⟩, h4, h5, ⟨by rw [e1 _ (by omega), s23], by rw [e2 _ (by omega), r6]⟩, ⟨by rw [e1 _ (by omega), s18], by rw [e1 _ (by omega), s18'], by rw [e2 _ (by omega), r4]⟩, fun i hi => (hRM i hi).keep (e1 _ (by omega)) (e1 _ (by omega)) fun w hw => e2 _ (by omega), fun j hj => ?_, fun j hj => ?_⟩
  · rw [e2 _ (by omega), e2 _ (by omega), e2 _ (by omega), e2 _ (by omega), e1 _ (by omega), e1 _ (by omega), e1 _ (by omega), e1 _ (by omega)]
    exact hit j hj
  · rw [e2 _ (by omega), e2 _ (by omega), e2 _ (by omega), e1 _ (by omega), e1 _ (by omega), e1 _ (by omega)]
    exact hev j hj
theorem IS.hdr (h : IS r cnt ck t sz nx) {ck' : Nat} (hk : ck ≤ ck') (hk2 : ck' < 2 ^ 30) (e2 : ∀ y, 6 ≤ y → r' y = r y) (h3 : r' 3 = 0 ∨ r' 3 = 1) : IS r' cnt ck' t sz nx := by
  obtain ⟨hc, hck, ht, hsz, hnx, hfan, hIM, hIT⟩ := h
  exact ⟨hc, hk2, ht, hsz, hnx, h3, fun j hj => ((hIM j hj).congr fun w hw => e2 _ (by omega)).mono hk, fun j hj => (hIT j hj).congr fun w hw => e2 _ (by omega)⟩
end SET
theorem sm_setLimit {z k : Nat} {σ τ : bz_W} (h : bz_Rel z k σ τ) (hk : k < 512) (x1 : Int32) : ∃ v σ1 τ1, f_X6_setLimit σ z x1 = some (v, σ1) ∧ f_X7_setLimit τ (z + 173) x1 = some (v, τ1) ∧ bz_Rel z (k + 1) σ1 τ1 := by
  obtain ⟨cnt, ck, t, sz, nx, hz, ⟨a0, a1, -⟩, hN, hL, hS, hI, hr⟩ := Rel.rd h
  unfold f_X6_setLimit f_X7_setLimit
  rcases io_cases x1 10 2000 with ⟨c1, c2, c3, c4⟩ | ⟨c1, c2⟩
  · rw [c1, c2, bd_s, bd_s, if_pos rfl, if_neg (by decide)]
    simp only [lt_d, a0, hN, a1]
    rw [← hS.2.2.1.1]
    by_cases e : x1 = τ.1 (z + 174) 2
    · rw [if_pos e, if_pos e.symm]
      exact ⟨_, _, _, rfl, rfl, sm_idle h⟩
    · rw [if_neg e, if_neg (fun q => e q.symm)]
      obtain ⟨σ', τ', g1, g2, g3, g4, g5, g6, g7⟩ := Rel.rec h
      obtain ⟨cnt, ck, t, sz, nx, -, ⟨b0, -⟩, hN', -, ⟨cnt, ck, t, sz, nx, hS', hI', hck, htt⟩, hr'⟩ : ∃ cnt ck t sz nx : Nat, 0 < z ∧ (σ'.2 z 0 = z + 1 ∧ True) ∧ τ'.2 (z + 173) 0 = z + 174 ∧ True ∧ St σ' (z + 1) (τ'.1 (z + 174)) (60 * k) (1000 * k) ∧ σ'.1 z 7 = τ'.1 (z + 173) 5 := by
        obtain ⟨hs, n, m1, m2, m3, m4, m5, m6, -⟩ := id g3
        exact ⟨0, 0, 0, 0, 0, hz, ⟨m2.2.1.1, trivial⟩, m3.1, trivial, m4, m6⟩
      rw [g1, g2, bd_s, bd_s, b0, hN']
      refine ⟨_, _, _, rfl, rfl, ?_⟩
      refine sm_idle (Rel.now g3 ((Fr.refl z σ').wi _ (by omega) (Or.inl (by omega))) (τ' := bz_wi τ' (z + 174) 2 x1) ⟨rfl, fun x q1 q2 => wi_o _ _ _ q2, fun w hw => by rw [wi_o _ _ _ (by omega)]⟩ ⟨cnt, ck, t, sz, nx, ?_, ?_, hck, htt⟩ ?_ (Nat.le_refl _) (Nat.le_refl _))
      · rw [wi_s]
        refine hS'.hdr hI'.1 (fun x hx => wi_o _ _ _ hx) (fun y hy => up_o _ _ (by omega)) (wi_so _ _ (by omega)) ⟨by rw [wi_so _ _ (by omega)]; exact hS'.2.1.1, by rw [up_o _ _ (by omega)]; exact hS'.2.1.2⟩ ⟨by rw [up_s, wi_ss], by rw [up_o _ _ (by omega), wi_so _ _ (by omega)]; exact hS'.2.2.1.2.1, by rw [up_o _ _ (by omega), wi_so _ _ (by omega)]; exact hS'.2.2.1.2.2⟩
      · rw [wi_s]
        exact hI'.hdr (Nat.le_refl _) hI'.2.1 (fun y hy => up_o _ _ (by omega)) (by rw [up_o _ _ (by omega)]; exact hI'.2.2.2.2.2.1)
      · rw [wi_o _ _ _ (by omega), wi_o _ _ _ (by omega)]
        exact hr'
  · rw [c1, c2]
    exact ⟨_, _, _, rfl, rfl, sm_idle h⟩
theorem RM.set {σ : bz_W} {q i F w : Nat} {r : Nat → Int32} (h : RM σ q r i) (v : Int32) (hp : (F = 7 ∧ w = 4) ∨ (F = 8 ∧ w = 5) ∨ (F = 9 ∧ w = 6) ∨ (F = 10 ∧ w = 7) ∨ (F = 11 ∧ w = 8) ∨ (F = 12 ∧ w = 9) ∨ (F = 14 ∧ w = 10) ∨ (F = 13 ∧ w = 11)) : RM (bz_wi σ q F v) q (upd r (8 + 20 * i + w) v) i := by
  obtain ⟨h0, h1, h2, h3, h4, h5, h6, h7, h8, h9, h10, h11, hk, hn⟩ := h
  have nr : needR (upd r (8 + 20 * i + w) v) i = needR r i := needR_congr (up_o _ _ (by omega)) (up_o _ _ (by omega)) (up_o _ _ (by omega))
  have n1 : q + 1 ≠ q := by omega
  have kk : ∀ k, k < 7 → upd r (8 + 20 * i + w) v (8 + 20 * i + 12 + k) = (bz_wi σ q F v).1 (q + 1) k := fun k h7 => by
    rw [up_o _ _ (by omega), wi_o _ _ _ n1]
    exact hk k h7
  refine ⟨?_, ?_, ?_, ?_, ?_, ?_, ?_, ?_, ?_, ?_, ?_, ?_, kk, ?_⟩
  all_goals first | (rw [up_o _ _ (by omega), wi_so _ _ (by omega)]; assumption) | (rw [nr, wi_so _ _ (by omega)]; assumption) | (rcases hp with ⟨rfl, rfl⟩ | ⟨rfl, rfl⟩ | ⟨rfl, rfl⟩ | ⟨rfl, rfl⟩ | ⟨rfl, rfl⟩ | ⟨rfl, rfl⟩ | ⟨rfl, rfl⟩ | ⟨rfl, rfl⟩ <;> first | (rw [up_s, wi_ss]) | (rw [up_o _ _ (by omega), wi_so _ _ (by omega)]; assumption))
theorem RM.acc {σ : bz_W} {q i w : Nat} {r : Nat → Int32} (h : RM σ q r i) (v : Int32) (hw : w < 7) : RM (bz_wi σ (q + 1) w v) q (upd r (8 + 20 * i + 12 + w) v) i := by
  obtain ⟨h0, h1, h2, h3, h4, h5, h6, h7, h8, h9, h10, h11, hk, hn⟩ := h
  have nr : needR (upd r (8 + 20 * i + 12 + w) v) i = needR r i := needR_congr (up_o _ _ (by omega)) (up_o _ _ (by omega)) (up_o _ _ (by omega))
  have n1 : q ≠ q + 1 := by omega
  have kk : ∀ k, k < 7 → upd r (8 + 20 * i + 12 + w) v (8 + 20 * i + 12 + k) = (bz_wi σ (q + 1) w v).1 (q + 1) k := fun k h7 => by
    by_cases e : k = w
    · subst e; rw [up_s, wi_ss]
    · rw [up_o _ _ (by omega), wi_so _ _ e]; exact hk k h7
  refine ⟨?_, ?_, ?_, ?_, ?_, ?_, ?_, ?_, ?_, ?_, ?_, ?_, kk, ?_⟩
  all_goals first | (rw [up_o _ _ (by omega), wi_o _ _ _ n1]; assumption) | (rw [nr, wi_o _ _ _ n1]; assumption)
