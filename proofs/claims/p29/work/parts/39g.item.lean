/-! pass, first part: the items that are due -/
def shI (r : Nat → Int32) (n : Nat) : Nat → Int32 := fun y => if 168 ≤ y ∧ y < 168 + n then r (y + 4) else r y
theorem shI_0 (r : Nat → Int32) : shI r 0 = r := by
  funext y
  have : ¬ (168 ≤ y ∧ y < 168 + 0) := by omega
  simp only [shI, if_neg this]
theorem shI_in {r : Nat → Int32} {n y : Nat} (h : 168 ≤ y) (h2 : y < 168 + n) : shI r n y = r (y + 4) := by
  have : 168 ≤ y ∧ y < 168 + n := ⟨h, h2⟩
  simp only [shI, if_pos this]
theorem shI_out {r : Nat → Int32} {n y : Nat} (h : y < 168 ∨ 168 + n ≤ y) : shI r n y = r y := by
  have : ¬ (168 ≤ y ∧ y < 168 + n) := by omega
  simp only [shI, if_neg this]
theorem shI_s (r : Nat → Int32) (j : Nat) : upd (shI r j) (168 + j) (r (168 + j + 4)) = shI r (j + 1) := by
  funext y
  by_cases hy : y = 168 + j
  · subst hy
    rw [up_s, shI_in (by omega) (by omega)]
  · rw [up_o _ _ hy]
    by_cases h : 168 ≤ y ∧ y < 168 + j
    · rw [shI_in h.1 h.2, shI_in h.1 (by omega)]
    · rw [shI_out (by omega), shI_out (by omega)]
section IT
variable {σ τ : bz_W} {z a i M N cnt ck t sz nx : Nat} {r : Nat → Int32}
theorem m_shift (hN : τ.2 M 0 = N) {m : Nat} (h4 : r 4 = nI m) (hm : m ≤ 10) (x1 x2 x3 : Int32) {k : bz_W → Option (Int32 × bz_W)} : ∀ fuel j, j ≤ 4 * m → 4 * m - j < fuel → f_X7_carryOutItems_L68 M x1 x2 x3 k fuel (nI (168 + j)) (bz_wb τ N (shI r j)) = k (bz_wb τ N (shI r (4 * m))) := by
  intro fuel
  induction fuel with
  | zero => intro j hj h; omega
  | succ f ih =>
    intro j hj h
    have e1 : (168 : Int32) + 4 * nI m = nI (168 + 4 * m) := by
      show nI 168 + nI 4 * nI m = _
      rw [pk_mul, nI_add]
    rw [f_X7_carryOutItems_L68, wb_2, hN, wb_s, shI_out (by omega), h4, e1]
    by_cases hjn : j = 4 * m
    · subst hjn
      rw [if_pos (nI_le (Nat.le_refl _) (by omega))]
    · have e2 : nI (168 + j) + 4 = nI (168 + j + 4) := nI_add _ 4
      rw [if_neg (nI_ge (by omega) (by omega)), e2, in_nI (by omega) (by omega), ck_n, in_nI (by omega) (by omega), ck_n, lt_n, lt_n, nI_clamp (by omega), nI_clamp (by omega), wi_wb, shI_out (by omega), shI_s, nI_1]
      exact ih (j + 1) (by omega) (by omega)
theorem RS.item (h : RS σ a r cnt ck t sz nx) (hc : cnt ≤ 8) (hx : nx < sz) (hs : sz ≤ 10) : RS (bz_wi σ (a + 18) 5 (nI (nx + 1))) a (shI (upd r 4 (nI (sz - (nx + 1)))) (4 * (sz - (nx + 1)))) cnt ck t sz (nx + 1) := by
  obtain ⟨⟨s0, r0⟩, ⟨s4, r1⟩, ⟨r2, r3, r5⟩, ⟨s23, r6⟩, ⟨s18, s18', r4⟩, hRM, hit, hev⟩ := h
  have e : ∀ y, y ≠ 4 → (y < 168 ∨ 208 ≤ y) → shI (upd r 4 (nI (sz - (nx + 1)))) (4 * (sz - (nx + 1))) y = r y := fun y h1 h2 => by
    rw [shI_out (by omega), up_o _ _ h1]
  have ei : ∀ y, 168 ≤ y → y < 168 + 4 * (sz - (nx + 1)) → shI (upd r 4 (nI (sz - (nx + 1)))) (4 * (sz - (nx + 1))) y = r (y + 4) := fun y h1 h2 => by
    rw [shI_in h1 h2, up_o _ _ (by omega)]
  have c : ∀ x, x ≠ a + 18 → (bz_wi σ (a + 18) 5 (nI (nx + 1))).1 x = σ.1 x := fun x hx => wi_o _ _ _ hx
  unfold RS
  rw [c a (by omega), c (a + 19) (by omega), c (a + 20) (by omega), c (a + 21) (by omega), c (a + 22) (by omega), c (a + 23) (by omega), c (a + 24) (by omega), c (a + 25) (by omega), c (a + 26) (by omega), e 0 (by omega) (by omega), e 1 (by omega) (by omega), e 2 (by omega) (by omega), e 3 (by omega) (by omega), e 5 (by omega) (by omega), e 6 (by omega) (by omega), shI_out (y := 4) (by omega), up_s, wi_ss, wi_so _ _ (by omega)]
  refine ⟨⟨s0, r0⟩, ⟨s4, r1⟩, ⟨r2, r3, r5⟩, ⟨s23, r6⟩, ⟨s18, rfl, rfl⟩, fun i hi => (hRM i hi).keep (c _ (by omega)) (c _ (by omega)) fun w hw => e _ (by omega) (by omega), fun j hj => ?_, fun j hj => ?_⟩
  · rw [ei _ (by omega) (by omega), ei _ (by omega) (by omega), ei _ (by omega) (by omega), ei _ (by omega) (by omega)]
    have := hit (j + 1) (by omega)
    rw [show 168 + 4 * j + 4 = 168 + 4 * (j + 1) by omega, show 168 + 4 * j + 1 + 4 = 168 + 4 * (j + 1) + 1 by omega, show 168 + 4 * j + 2 + 4 = 168 + 4 * (j + 1) + 2 by omega, show 168 + 4 * j + 3 + 4 = 168 + 4 * (j + 1) + 3 by omega, show nx + 1 + j = nx + (j + 1) by omega]
    exact this
  · rw [e _ (by omega) (by omega), e _ (by omega) (by omega), e _ (by omega) (by omega)]
    exact hev j hj
theorem IS.item (h : IS r cnt ck t sz nx) (hx : nx < sz) : IS (shI (upd r 4 (nI (sz - (nx + 1)))) (4 * (sz - (nx + 1)))) cnt ck t sz (nx + 1) := by
  obtain ⟨hc, hck, ht, hsz, hnx, hfan, hIM, hIT⟩ := h
  refine ⟨hc, hck, ht, hsz, by omega, by rw [shI_out (by omega), up_o _ _ (by omega)]; exact hfan, fun j hj => (hIM j hj).congr fun w hw => by rw [shI_out (by omega), up_o _ _ (by omega)], fun j hj => ?_⟩
  have := hIT (j + 1) (by omega)
  unfold IT at this ⊢
  rw [shI_in (by omega) (by omega), shI_in (by omega) (by omega), shI_in (by omega) (by omega), up_o _ _ (by omega), up_o _ _ (by omega), up_o _ _ (by omega), show 168 + 4 * j + 1 + 4 = 168 + 4 * (j + 1) + 1 by omega, show 168 + 4 * j + 2 + 4 = 168 + 4 * (j + 1) + 2 by omega, show 168 + 4 * j + 3 + 4 = 168 + 4 * (j + 1) + 3 by omega]
  exact this
/-- the refusals' count goes up on both sides -/
theorem NW.refc (h : NW z σ r cnt ck t sz nx) : Fr z σ (bz_wi σ (z + 1) 7 (σ.1 (z + 1) 7 + 1)) ∧ NW z (bz_wi σ (z + 1) 7 (σ.1 (z + 1) 7 + 1)) (upd r 5 (r 5 + 1)) cnt ck t sz nx := by
  obtain ⟨hz, h1, h2, h3, h4, h5, h6⟩ := id h
  have hF : Fr z σ (bz_wi σ (z + 1) 7 (σ.1 (z + 1) 7 + 1)) := (Fr.refl z σ).wi _ (by omega) (Or.inl (by omega))
  refine ⟨hF, h.next hF (h3.hdr h4.1 (fun x hx => wi_o _ _ _ hx) (fun y hy => up_o _ _ (by omega)) (wi_so _ _ (by omega)) ⟨by rw [wi_so _ _ (by omega)]; exact h3.2.1.1, by rw [up_o _ _ (by omega)]; exact h3.2.1.2⟩ ⟨by rw [up_o _ _ (by omega), wi_so _ _ (by omega)]; exact h3.2.2.1.1, by rw [up_o _ _ (by omega), wi_so _ _ (by omega)]; exact h3.2.2.1.2.1, by rw [up_s, wi_ss, h3.2.2.1.2.2]⟩) (h4.hdr (Nat.le_refl _) h4.2.1 (fun y hy => up_o _ _ (by omega)) (by rw [up_o _ _ (by omega)]; exact h4.2.2.2.2.2.1))⟩
theorem wi_z7 (h : NW z σ r cnt ck t sz nx) (x : Int32) : Fr z σ (bz_wi σ z 7 x) ∧ NW z (bz_wi σ z 7 x) r cnt ck t sz nx := by
  have hF : Fr z σ (bz_wi σ z 7 x) := ⟨rfl, fun b h1 h2 => wi_o _ _ _ (by omega), fun w hw => wi_so _ _ hw, fun i hi => by rw [wi_o _ _ _ (by omega)]⟩
  exact ⟨hF, h.next hF (h.2.2.2.1.keep h.2.2.2.2.1.1 fun b h1 h2 => wi_o _ _ _ (by omega)) h.2.2.2.2.1⟩
theorem wb_wi (σ : bz_W) {a b : Nat} (k : Nat) (v : Int32) (f : Nat → Int32) (h : a ≠ b) : bz_wi (bz_wb σ b f) a k v = bz_wb (bz_wi σ a k v) b f := by
  unfold bz_wi bz_wb
  ext1
  · funext x
    by_cases h1 : x = a
    · subst h1; simp [h]
    · by_cases h2 : x = b
      · subst h2; simp [h1]
      · simp [h1, h2]
  · rfl
def PS (z : Nat) (σ τ : bz_W) (r : Nat → Int32) (cnt ck t sz nx : Nat) : Prop := NW z σ r cnt ck t sz nx ∧ τ.2 (z + 173) 0 = z + 174 ∧ σ.1 z 7 = τ.1 (z + 173) 5
/-- what the model does with an item once it is out of the list -/
def mItem (M : Nat) (x7 x9 x11 : Int32) (j26 : bz_W → Option (Int32 × bz_W)) (σ22 : bz_W) : Option (Int32 × bz_W) := bd_ (f_X7_wrongIn σ22 M x7 x9 x11) fun r23 σ24 => if r23 = 0 then bd_ (f_X7_carryOut σ24 M x7 x9 x11) fun _ σ37 => j26 σ37 else if r23 = (-4) then j26 σ24 else lt_ (bz_wi σ24 (σ24.2 M 0) 5 ((σ24.1 (σ24.2 M 0) 5) + 1)) fun σ30 => lt_ (fun (y31 : Int32) (σ32 : bz_W) => lt_ (bz_wi σ32 M 5 y31) fun σ34 => j26 σ34) fun j33 => if r23 ≤ 0 then j33 (σ30.1 M 5) σ30 else j33 r23 σ30
theorem item_go (h : PS z σ τ r cnt ck t sz nx) (ht : t + 1 < 2 ^ 30) {x1 x2 x3 : Int32} {OK : Prop} (hc : CK z σ τ r x1 x2 x3 x3 OK) (co : OK → ∃ v, CO z σ τ r cnt ck t sz nx x1 x2 x3 x3 v (fun _ => True)) (j : bz_W → Option (Int32 × bz_W)) : ∃ σ' τ' r' t', f_X6_carryOutItem σ z x1 x2 x3 = some (0, σ') ∧ mItem (z + 173) x1 x2 x3 j (bz_wb τ (z + 174) r) = j (bz_wb τ' (z + 174) r') ∧ Fr z σ σ' ∧ FrM z τ τ' ∧ PS z σ' τ' r' cnt ck t' sz nx ∧ t' ≤ t + 1 := by
  obtain ⟨h1, hN, h3⟩ := id h
  obtain ⟨w, g1, g2⟩ := hc
  have hs := h1.2.2.2.2.2.1
  unfold f_X6_carryOutItem mItem
  rw [g1, bd_n]
  have n1 : z + 173 ≠ z + 174 := by omega
  rcases g2 with ⟨rfl, g2, hok⟩ | ⟨rfl, g2⟩ | ⟨rfl, g2⟩ | ⟨hw4, g2⟩
  · obtain ⟨v, σ', r', t', d1, d2, d3, d4, d5, d6, -⟩ := co hok
    rw [g2, bd_n, if_pos rfl, d1, bd_n, if_pos rfl, d2, bd_n]
    exact ⟨σ', τ, r', t', rfl, rfl, d3, FrM.refl z τ, ⟨d5, hN, by rw [d4]; exact h3⟩, d6⟩
  · obtain ⟨k1, k2⟩ := h1.refc
    rw [g2, bd_n, if_neg (by decide), if_neg (by decide), if_neg (by decide), if_neg (by decide), lt_n, lt_n, lt_n, if_pos (by decide), hs, wb_2, hN, wb_s, wi_wb]
    dsimp only
    rw [lt_n, wb_o _ _ n1, wb_wi _ _ _ _ n1]
    exact ⟨_, _, _, t, rfl, rfl, k1, FrM.wi5 z τ _, ⟨k2, hN, by rw [wi_o _ _ _ (by omega), wi_ss]; exact h3⟩, by omega⟩
  · rw [g2, bd_n, if_neg (by decide), if_pos rfl, if_neg (by decide), if_pos rfl]
    exact ⟨σ, τ, r, t, rfl, rfl, Fr.refl z σ, FrM.refl z τ, h, by omega⟩
  · obtain ⟨l1, l2⟩ := wi_z7 h1 w
    obtain ⟨k1, k2⟩ := l2.refc
    have w0 : ¬ w = 0 := by rcases hw4 with rfl | rfl | rfl <;> decide
    have w4 : ¬ w = -4 := by rcases hw4 with rfl | rfl | rfl <;> decide
    have wl : ¬ w ≤ 0 := by rcases hw4 with rfl | rfl | rfl <;> decide
    rw [g2, bd_n, if_neg (by decide), if_neg (by decide), if_neg w0, if_neg w4, lt_n, lt_n, lt_n, if_neg wl, wi_2, hs, wb_2, hN, wb_s, wi_wb]
    dsimp only
    rw [lt_n, wb_wi _ _ _ _ n1]
    exact ⟨_, _, _, t, rfl, rfl, l1.trans k1, FrM.wi5 z τ _, ⟨k2, hN, by rw [wi_o _ _ _ (by omega), wi_ss, wi_ss]⟩, by omega⟩
theorem item_one (h : PS z σ τ r cnt ck t sz nx) (ht : t + 1 < 2 ^ 30) {w f : Nat} {x3 : Int32} (hw : w ≤ 4) (hf : f ≤ 7) (h4 : w = 4 → f ≤ 1) (h3 : if w = 2 then ∃ p : Nat, p ≤ 7 ∧ x3 = nI p else x3 = -4) (j : bz_W → Option (Int32 × bz_W)) : ∃ σ' τ' r' t', f_X6_carryOutItem σ z (nI w) (nI f) x3 = some (0, σ') ∧ mItem (z + 173) (nI w) (nI f) x3 j (bz_wb τ (z + 174) r) = j (bz_wb τ' (z + 174) r') ∧ Fr z σ σ' ∧ FrM z τ τ' ∧ PS z σ' τ' r' cnt ck t' sz nx ∧ t' ≤ t + 1 := by
  obtain ⟨h1, hN, -⟩ := id h
  have hc := h1.2.2.2.2.1.1
  have weak : ∀ {x1 x2 y1 y2 v : Int32} {P : (Nat → Int32) → Prop}, CO z σ τ r cnt ck t sz nx x1 x2 y1 y2 v P → ∃ v, CO z σ τ r cnt ck t sz nx x1 x2 y1 y2 v (fun _ => True) := by
    rintro x1 x2 y1 y2 v P ⟨s1, s2, s3, s4, s5, s6, s7, s8, s9, -⟩
    exact ⟨v, s1, s2, s3, s4, s5, s6, s7, s8, s9, trivial⟩
  have nok : ¬ f < cnt → nI cnt ≤ nI f := fun q => nI_le (by omega) (by omega)
  rcases (show w = 0 ∨ w = 1 ∨ w = 2 ∨ w = 3 ∨ w = 4 by omega) with rfl | rfl | rfl | rfl | rfl
  · by_cases hi : f < cnt
    · exact item_go h ht (ck0 h1 hN hi x3 x3) (fun _ => weak (co0 h1 hN hi x3 x3)) j
    · exact item_go h ht (ckN (x1 := 0) h1 hN (by decide) (Or.inr (nok hi)) x3 x3) (fun q => q.elim) j
  · by_cases hi : f < cnt
    · exact item_go h ht (ck1 h1 hN hi x3 x3) (fun _ => weak (co1 h1 hN hi ht x3 x3)) j
    · exact item_go h ht (ckN (x1 := 1) h1 hN (by decide) (Or.inr (nok hi)) x3 x3) (fun q => q.elim) j
  · rw [if_pos rfl] at h3
    obtain ⟨p, hp, rfl⟩ := h3
    by_cases hi : f < cnt
    · exact item_go h ht (ck2 h1 hN hi hp) (fun _ => weak (co2 h1 hN hi ht hp)) j
    · exact item_go h ht (ckN (x1 := 2) h1 hN (by decide) (Or.inr (nok hi)) (nI p) (nI p)) (fun q => q.elim) j
  · by_cases hi : f < cnt
    · refine item_go h ht (ck3 h1 hN hi x3 x3) (fun _ => ?_) j
      obtain ⟨v, q⟩ := co3 h1 hN hi ht x3 x3
      exact weak q
    · exact item_go h ht (ckN (x1 := 3) h1 hN (by decide) (Or.inr (nok hi)) x3 x3) (fun q => q.elim) j
  · have hx : nI f = 0 ∨ nI f = 1 := by
      rcases (show f = 0 ∨ f = 1 by have := h4 rfl; omega) with rfl | rfl
      · exact Or.inl rfl
      · exact Or.inr rfl
    exact item_go h ht (ck4 h1 hN hx x3 x3) (fun _ => weak (co4 h1 hN hx x3 x3)) j
theorem items_L (k : bz_W → Option (Int32 × bz_W)) : ∀ fuel (σ τ : bz_W) (r : Nat → Int32) (t nx : Nat), PS z σ τ r cnt ck t sz nx → t + (sz - nx) < 2 ^ 29 → sz - nx < fuel → ∃ σ' τ' r' t' nx', f_X6_carryOutDueItems_L13 z (z + 1 + 18) (fun (σ19 : bz_W) => some (0, σ19)) fuel (nI nx) σ = some (0, σ') ∧ f_X7_carryOutItems_L0 (z + 173) k fuel (bz_wb τ (z + 174) r) = k (bz_wb τ' (z + 174) r') ∧ Fr z σ σ' ∧ FrM z τ τ' ∧ PS z σ' τ' r' cnt ck t' sz nx' ∧ t' + (sz - nx') ≤ t + (sz - nx) := by
  intro fuel
  induction fuel with
  | zero => intro σ τ r t nx h ht hf; omega
  | succ f ih =>
    intro σ τ r t nx h ht hf
    obtain ⟨h1, hN, h3⟩ := id h
    obtain ⟨hz, hL, hnm, hS, hI, hs0, hs6⟩ := id h1
    obtain ⟨hc, hck, ht2, hsz, hnx, hfan, hIM, hIT⟩ := id hI
    rw [f_X6_carryOutDueItems_L13, f_X7_carryOutItems_L0, wb_2, hN, wb_s, hS.2.2.2.2.1.1, hS.2.2.2.2.1.2.2]
    by_cases e : nx = sz
    · subst e
      rw [if_pos (nI_le (Nat.le_refl _) (by omega)), Nat.sub_self, if_pos (show nI 0 ≤ (0 : Int32) by decide)]
      exact ⟨σ, τ, r, t, nx, rfl, rfl, Fr.refl z σ, FrM.refl z τ, h, by omega⟩
    · have hlt : nx < sz := by omega
      obtain ⟨i0, i1, i2, i3⟩ := hS.2.2.2.2.2.2.1 0 (by omega)
      simp only [Nat.mul_zero, Nat.add_zero] at i0 i1 i2 i3
      have it0 := hIT 0 (by omega)
      unfold IT at it0
      simp only [Nat.mul_zero, Nat.add_zero] at it0
      obtain ⟨w, fm, t1, t2, t3, t4, t5, t6⟩ := it0
      rw [if_neg (nI_ge hlt (by omega)), if_neg (nI_nle (by omega) (by omega)), in_nI (by omega) (by omega), ck_n, nI_clamp (by omega), hs0, hL.2.2.2.2.1.1, ← i0, hS.2.1.1, hS.2.1.2]
      by_cases hd : r 168 ≤ nI ck
      · have hd2 : ¬ nI ck < r 168 := Int32.not_lt.mpr hd
        rw [if_pos hd, if_neg hd2, lt_n, lt_n, lt_n, lt_n, lt_n, ck_n, ck_n, ck_n]
        -- the item leaves the list on both sides
        have hF1 : Fr z σ (bz_wi σ (z + 1 + 18) 5 (nI nx + 1)) := (Fr.refl z σ).wi _ (by omega) (Or.inl (by omega))
        have hS1 := hS.item hc hlt hsz
        have hI1 := hI.item hlt
        have h1' : NW z (bz_wi σ (z + 1 + 18) 5 (nI (nx + 1))) (shI (upd r 4 (nI (sz - (nx + 1)))) (4 * (sz - (nx + 1)))) cnt ck t sz (nx + 1) := h1.next (by rw [← nI_1]; exact hF1) hS1 hI1
        have hps : PS z (bz_wi σ (z + 1 + 18) 5 (nI (nx + 1))) τ (shI (upd r 4 (nI (sz - (nx + 1)))) (4 * (sz - (nx + 1)))) cnt ck t sz (nx + 1) := ⟨h1', hN, by rw [wi_o _ _ _ (by omega)]; exact h3⟩
        have e4 : nI (sz - nx) - 1 = nI (sz - (nx + 1)) := by
          obtain ⟨m, em⟩ : ∃ m, sz - nx = m + 1 := ⟨sz - nx - 1, by omega⟩
          rw [em, nI_pred]
          congr 1
          omega
        obtain ⟨σ2, τ2, r2, t', f1, f2, f3, f4, f5, f6⟩ := item_one hps (by omega) t3 t4 t5 t6 (fun (σ25 : bz_W) => f_X7_carryOutItems_L0 (z + 173) k f σ25)
        have hsh := m_shift (τ := τ) (M := z + 173) (N := z + 174) (r := upd r 4 (nI (sz - (nx + 1)))) hN (m := sz - (nx + 1)) (by rw [up_s]) (by omega) (nI w) (nI fm) (r 171) (k := mItem (z + 173) (nI w) (nI fm) (r 171) (fun (σ25 : bz_W) => f_X7_carryOutItems_L0 (z + 173) k f σ25)) 1100 0 (Nat.zero_le _) (by omega)
        rw [shI_0, f2] at hsh
        have a1 : r 169 = nI w := t1
        have a2 : r 170 = nI fm := t2
        simp only [wi_2, hL.2.2.2.2.1.2.1, hL.2.2.2.2.1.2.2.1, hL.2.2.2.2.1.2.2.2]
        rw [wi_o _ _ _ (show z + 1 + 20 ≠ z + 1 + 18 by omega), wi_o _ _ _ (show z + 1 + 21 ≠ z + 1 + 18 by omega), wi_o _ _ _ (show z + 1 + 22 ≠ z + 1 + 18 by omega), ← i1, ← i2, ← i3, a1, a2, nI_1, f1, bd_n, lt_n, wi_wb, e4]
        obtain ⟨σ3, τ3, r3, t3', nx3, p1, p2, p3, p4, p5, p6⟩ := ih σ2 τ2 r2 t' (nx + 1) f5 (by omega) (by omega)
        refine ⟨σ3, τ3, r3, t3', nx3, p1, ?_, ((by rw [← nI_1]; exact hF1 : Fr z σ (bz_wi σ (z + 1 + 18) 5 (nI (nx + 1)))).trans f3).trans p3, f4.trans p4, p5, by omega⟩
        refine Eq.trans ?_ p2
        exact hsh
      · have hd2 : nI ck < r 168 := Int32.not_le.mp hd
        rw [if_neg hd, if_pos hd2]
        exact ⟨σ, τ, r, t, nx, rfl, rfl, Fr.refl z σ, FrM.refl z τ, h, Nat.le_refl _⟩
theorem items_both (h : PS z σ τ r cnt ck t sz nx) (ht : t + (sz - nx) < 2 ^ 29) : ∃ σ' τ' r' t' nx', f_X6_carryOutDueItems σ z = some (0, σ') ∧ f_X7_carryOutItems (bz_wb τ (z + 174) r) (z + 173) = some (0, bz_wb τ' (z + 174) r') ∧ Fr z σ σ' ∧ FrM z τ τ' ∧ PS z σ' τ' r' cnt ck t' sz nx' ∧ t' + (sz - nx') ≤ t + (sz - nx) := by
  unfold f_X6_carryOutDueItems f_X7_carryOutItems
  rw [h.1.2.2.2.2.2.1, h.1.2.1.2.1, lt_n, h.1.2.2.2.1.2.2.2.2.1.2.1]
  exact items_L (fun (σ38 : bz_W) => some (0, σ38)) 1100 σ τ r t nx h ht (by have := h.1.2.2.2.2.1.2.2.2.1; omega)
end IT
