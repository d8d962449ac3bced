/-! reading a text: the loop -/
def FE (X E : Nat) (σ σ' : bz_W) : Prop := σ'.2 = σ.2 ∧ (∀ x, x ≠ X → (x < E ∨ E + 4 < x) → σ'.1 x = σ.1 x) ∧ σ'.1 X 1 = σ.1 X 1
def FX (M D : Nat) (τ τ' : bz_W) : Prop := τ'.2 = τ.2 ∧ (∀ x, x ≠ M → x ≠ D → τ'.1 x = τ.1 x) ∧ ∀ w, w ≠ 8 → w ≠ 9 → τ'.1 M w = τ.1 M w
theorem FE.trans {X E : Nat} {a b c : bz_W} (h : FE X E a b) (g : FE X E b c) : FE X E a c := ⟨g.1.trans h.1, fun x h1 h2 => (g.2.1 x h1 h2).trans (h.2.1 x h1 h2), g.2.2.trans h.2.2⟩
theorem FX.trans {M D : Nat} {a b c : bz_W} (h : FX M D a b) (g : FX M D b c) : FX M D a c := ⟨g.1.trans h.1, fun x h1 h2 => (g.2.1 x h1 h2).trans (h.2.1 x h1 h2), fun w h1 h2 => (g.2.2 w h1 h2).trans (h.2.2 w h1 h2)⟩
theorem FC.fe {X E : Nat} {a b : bz_W} (h : FC X a b) : FE X E a b := ⟨h.1, fun x h1 _ => h.2.1 x h1, h.2.2.1⟩
theorem FM.fx {M D n : Nat} {a b : bz_W} (h : FM M D n a b) : FX M D a b := ⟨h.1, h.2.1, h.2.2.1⟩
theorem FX.wiM {M D : Nat} {τ τ' : bz_W} (h : FX M D τ τ') {k : Nat} (v : Int32) (hk : k = 8 ∨ k = 9) : FX M D τ (bz_wi τ' M k v) := ⟨h.1, fun x h1 h2 => by rw [wi_o _ _ _ h1]; exact h.2.1 x h1 h2, fun w h1 h2 => by rw [wi_so _ _ (by omega)]; exact h.2.2 w h1 h2⟩
theorem ES.mem {σ σ' : bz_W} {E ck n : Nat} {D : Nat → Int32} (h : ES E ck n σ D) (h2 : σ'.2 = σ.2) (h1 : ∀ x, E ≤ x → x ≤ E + 4 → σ'.1 x = σ.1 x) : ES E ck n σ' D := by
  unfold ES at h ⊢
  rw [h2, h1 E (by omega) (by omega), h1 (E + 1) (by omega) (by omega), h1 (E + 2) (by omega) (by omega), h1 (E + 3) (by omega) (by omega), h1 (E + 4) (by omega) (by omega)]
  exact h
theorem loop_read {X V M W D E l ck : Nat} (hXV : X ≠ V) (hMW : M ≠ W) (hDW : D ≠ W) (hMD : M ≠ D) (hXE : X < E ∨ E + 4 < X) (hVE : V < E ∨ E + 4 < V) (k km : bz_W → Option (Int32 × bz_W)) : ∀ fuel n p last (σ τ : bz_W), TS X V M W D σ τ l p n last → 8 * n ≤ p → ES E ck n σ (τ.1 D) → 12 - n < fuel → (∃ σ' τ' p', f_X5_readInto_L16 X E (nI ck) k fuel (nI n) σ = some (0, σ') ∧ f_X7_readTimetable_L12 M km fuel 1 τ = some (-100 - nI p', τ') ∧ σ'.1 X 2 = nI p' ∧ FE X E σ σ' ∧ FX M D τ τ') ∨ (∃ σ' τ' n', f_X5_readInto_L16 X E (nI ck) k fuel (nI n) σ = some (1, σ') ∧ f_X7_readTimetable_L12 M km fuel 1 τ = km τ' ∧ ES E ck n' σ' (τ'.1 D) ∧ τ'.1 M 9 = nI n' ∧ FE X E σ σ' ∧ FX M D τ τ') := by
  have hDM : D ≠ M := Ne.symm hMD
  intro fuel
  induction fuel with
  | zero => intro n p last σ τ h h8 hE hf; omega
  | succ f ih =>
    intro n p last σ τ h h8 hE hf
    have hl : l ≤ 80 := h.2.2.2.2.2.1
    have hp : p ≤ l := h.2.2.2.2.2.2.1
    rw [f_X5_readInto_L16, f_X7_readTimetable_L12, h.1.2.1, if_neg (nI_nlt (by omega) (by omega)), if_neg (show ¬ (1 : Int32) = 0 by decide)]
    rcases item_read h hXV hMW hDW hMD with ⟨σ', τ', p', c1, c2, c3, c4, c5, c6⟩ | ⟨σ1, τ1, p1, l1, w, fm, x, c1, c2, c3, c4, c5, c6, c7, c8, c9, ⟨x2, x3, x4, x5, x6⟩, ⟨y8, y9, z0, z1, z2, z3⟩, G, H⟩
    · rw [c1, c2, bd_n, bd_n, if_pos rfl, if_pos rfl, c4]
      exact Or.inl ⟨σ', τ', p', rfl, rfl, c3, c5.fe, c6.fx⟩
    · obtain ⟨⟨a1, a2, a3, a4⟩, ⟨b1, b2, b3, b4, b5⟩, n0, n1, hla, -, -, hn, hc⟩ := id h
      have hE1 : ES E ck n σ1 (τ1.1 D) := (hE.mem G.1 fun x q1 q2 => G.2.1 x (by omega)).congr fun j hj => H.2.2.2 j hj
      obtain ⟨σ2, d1, d2, d3, d4⟩ := c_eadd hE1 (show n < 10 by omega) (v0 := nI ck + σ1.1 X 3) (v1 := σ1.1 X 4) (v2 := σ1.1 X 5) (v3 := σ1.1 X 6) (by rw [x3, z0]) (by rw [x4, z1]) (by rw [x5, z2]) (by rw [x6, z3]) ⟨w, fm, z1, z2, c6, c7, c8, by rw [z3]; exact c9⟩
      have t6 : τ1.1 M 6 = nI l := by rw [H.2.2.1 6 (by omega) (by omega)]; exact b3
      have t7 : τ1.2 M 7 = W := by rw [H.1]; exact b1
      have hX2 : σ2.1 X = σ1.1 X := d4 X hXE
      have F2 : FE X E σ σ2 := FE.trans (b := σ1) G.fe ⟨d3, fun x h1 h2 => d4 x h2, by rw [hX2]⟩
      have hV2 : ∀ j, j < l → σ2.1 V j = τ1.1 W j := fun j hj => by
        rw [F2.2.1 V (Ne.symm hXV) hVE, H.2.1 W (Ne.symm hMW) (Ne.symm hDW)]
        exact hc j hj
      have r0 : σ2.2 X 0 = V := by rw [F2.1]; exact a1
      have xl : σ2.1 X 1 = nI l := by rw [F2.2.2]; exact a2
      obtain ⟨τ2, et2⟩ : ∃ t, t = bz_wi τ1 M 9 (nI (n + 1)) := ⟨_, rfl⟩
      have K2 : FX M D τ τ2 := by rw [et2]; exact H.fx.wiM _ (Or.inr rfl)
      have m8 : τ2.1 M 8 = nI p1 := by rw [et2, wi_so _ _ (by omega)]; exact y8
      have m9 : τ2.1 M 9 = nI (n + 1) := by rw [et2, wi_ss]
      have m6 : τ2.1 M 6 = nI l := by rw [et2, wi_so _ _ (by omega)]; exact t6
      have mD : τ2.1 D = τ1.1 D := by rw [et2, wi_o _ _ _ hDM]
      have m7 : τ2.2 M 7 = W := by rw [et2]; exact t7
      have mW : τ2.1 W = τ1.1 W := by rw [et2, wi_o _ _ _ (Ne.symm hMW)]
      unfold Q3 at c2
      rw [y9, nI_1, lt_n, ← et2, m8, m6, m7, mW] at c2
      have xl1 : σ1.1 X 1 = nI l := by rw [← hX2]; exact xl
      rw [c1, c2, bd_n, if_neg (show ¬ (1 : Int32) = 0 by decide), d1, bd_n, hX2, x2, xl1]
      by_cases hpl : p1 = l
      · subst hpl
        obtain ⟨f', rfl⟩ : ∃ f', f = f' + 1 := ⟨f - 1, by omega⟩
        rw [if_neg (nI_nlt (Nat.le_refl _) (by omega)), if_pos rfl, bd_n, if_neg (show ¬ (1 : Int32) = 0 by decide), lt_n, m6, m8, if_pos (nI_le (Nat.le_refl _) (by omega))]
        dsimp only
        rw [lt_n, if_pos rfl]
        dsimp only
        rw [lt_n, f_X7_readTimetable_L12, if_pos rfl]
        exact Or.inr ⟨σ2, _, n + 1, rfl, rfl, by rw [wi_o _ _ _ hDM, mD]; exact d2, by rw [wi_so _ _ (by omega)]; exact m9, F2, K2.wiM _ (Or.inl rfl)⟩
      · have hlt : p1 < l := by omega
        have hne : ¬ nI p1 = nI l := fun q => hpl ((nI_eq (by omega) (by omega)).mp q)
        rw [if_pos (nI_lt hlt (by omega)), if_neg hne, in_nI (by omega) (by omega), ck_n, ck_n, nI_clamp (by omega), r0, hV2 p1 hlt]
        by_cases c59 : τ1.1 W p1 = 59
        · rw [if_pos c59, if_pos c59, bd_n, if_neg (show ¬ (1 : Int32) = 0 by decide), lt_n, lt_n, lt_n, m6, m8, if_neg (nI_ge hlt (by omega))]
          dsimp only
          rw [lt_n, if_neg (show ¬ (1 : Int32) = 0 by decide)]
          dsimp only
          rw [lt_n, m8, nI_1, nI_1]
          obtain ⟨σ3, es3⟩ : ∃ s, s = bz_wi σ2 X 2 (nI (p1 + 1)) := ⟨_, rfl⟩
          obtain ⟨τ3, et3⟩ : ∃ s, s = bz_wi τ2 M 8 (nI (p1 + 1)) := ⟨_, rfl⟩
          rw [← es3, ← et3]
          have F3 : FE X E σ2 σ3 := by rw [es3]; exact ⟨rfl, fun x h1 _ => wi_o _ _ _ h1, by rw [wi_so _ _ (by omega)]⟩
          have K3 : FX M D τ τ3 := by rw [et3]; exact K2.wiM _ (Or.inl rfl)
          have m93 : τ3.1 M 9 = nI (n + 1) := by rw [et3, wi_so _ _ (by omega)]; exact m9
          have mD3 : τ3.1 D = τ1.1 D := by rw [et3, wi_o _ _ _ hDM, mD]
          have hTS : TS X V M W D σ3 τ3 l (p1 + 1) (n + 1) l1 := ⟨⟨by rw [F3.1]; exact r0, by rw [F3.2.2]; exact xl, by rw [es3, wi_ss], by rw [es3, wi_so _ _ (by omega), hX2]; exact x3⟩, ⟨by rw [et3]; exact m7, by rw [K3.1]; exact b2, by rw [et3, wi_so _ _ (by omega)]; exact m6, by rw [et3, wi_ss], m93⟩, fun q => by omega, fun _ => by rw [mD3, show 4 * (n + 1) - 4 = 4 * n by omega]; exact z0, c5, hl, by omega, by omega, fun j hj => by rw [es3, wi_o _ _ _ (Ne.symm hXV), et3, wi_o _ _ _ (Ne.symm hMW), mW]; exact hV2 j hj⟩
          have hES : ES E ck (n + 1) σ3 (τ3.1 D) := by
            rw [mD3]
            exact d2.mem F3.1 fun x q1 q2 => by rw [es3, wi_o _ _ _ (by omega)]
          rcases ih (n + 1) (p1 + 1) l1 σ3 τ3 hTS (by omega) hES (by omega) with ⟨s', t', p', e1, e2, e3, e4, e5⟩ | ⟨s', t', n', e1, e2, e3, e4, e5, e6⟩
          · exact Or.inl ⟨s', t', p', e1, e2, e3, (F2.trans F3).trans e4, K3.trans e5⟩
          · exact Or.inr ⟨s', t', n', e1, e2, e3, e4, (F2.trans F3).trans e5, K3.trans e6⟩
        · rw [if_neg c59, if_neg c59, bd_n, if_pos rfl, m8]
          exact Or.inl ⟨σ2, τ2, p1, rfl, rfl, by rw [hX2, x2], F2, K2⟩
