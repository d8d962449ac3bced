/-! reading a text: the loop -/
def FE (X E : Nat) (σ σ' : bz_W) : Prop := σ'.2 = σ.2 ∧ (∀ x, x ≠ X → (x < E ∨ E + 4 < x) → σ'.1 x = σ.1 x) ∧ σ'.1 X 1 = σ.1 X 1
def FX (M D : Nat) (τ τ' : bz_W) : Prop := τ'.2 = τ.2 ∧ (∀ x, x ≠ M → x ≠ D → τ'.1 x = τ.1 x) ∧ ∀ w, w ≠ 8 → w ≠ 9 → τ'.1 M w = τ.1 M w
theorem FE.trans {X E : Nat} {a b c : bz_W} (h : FE X E a b) (g : FE X E b c) : FE X E a c := ⟨g.1.trans h.1, fun x h1 h2 => (g.2.1 x h1 h2).trans (h.2.1 x h1 h2), g.2.2.trans h.2.2⟩
theorem FX.trans {M D : Nat} {a b c : bz_W} (h : FX M D a b) (g : FX M D b c) : FX M D a c := ⟨g.1.trans h.1, fun x h1 h2 => (g.2.1 x h1 h2).trans (h.2.1 x h1 h2), fun w h1 h2 => (g.2.2 w h1 h2).trans (h.2.2 w h1 h2)⟩
theorem FC.fe {X E : Nat} {a b : bz_W} (h : FC X a b) : FE X E a b := ⟨h.1, fun x h1 _ => h.2.1 x h1, h.2.2.1⟩
theorem FM.fx {M D n : Nat} {a b : bz_W} (h : FM M D n a b) : FX M D a b := ⟨h.1, h.2.1, h.2.2.1⟩
theorem FX.wiM {M D : Nat} {τ τ' : bz_W} (h : FX M D τ τ') {k : Nat} (v : Int32) (hk : k = 8 ∨ k = 9) : FX M D τ (bz_wi τ' M k v) := ⟨h.1, fun x h1 h2 => by rw [wi_o _ _ _ h1]; exact h.2.1 x h1 h2, fun w h1 h2 => by rw [wi_so _ _ (by omega)]; exact h.2.2 w h1 h2⟩
theorem ES.mem {σ σ' : bz_W} {E ck n : Nat} {D : Nat → Int32} (h : ES E ck n σ D) (h2 : σ'.2 = σ.2) (h1 : ∀ x, E ≤ x → x ≤ E + 4 → σ'.1 x = σ.1 x) : ES E ck n σ' D := by
  unfold ES at h ⊢
  rw [h2, h1 E (by omega) (by omega), h1 (E + 1) (by omega) (by omega), h1 (E + 2) (by omega) (by omega), h1 (E + 3) (by omega) (by omega), h1 (E + 4) (by omega) (by omega)]
  exact h
