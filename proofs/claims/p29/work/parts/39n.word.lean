/-! reading a text: the word of an order -/
section WRD
variable {σ τ : bz_W} {X V M W l p e : Nat}
def WP (c : Nat → Int32) (p e k : Nat) : Prop := e - p = bz_len.getD k 0 ∧ ∀ i, i < bz_len.getD k 0 → c (p + i) = (bz_byt.getD k []).getD i 0
theorem bz_len_le : ∀ k, k < 5 → 3 ≤ bz_len.getD k 0 ∧ bz_len.getD k 0 ≤ 5 := by decide
theorem c_part (hX : σ.2 X 0 = V) (hXp : σ.1 X 2 = nI p) (hl : l ≤ 80) (he1 : p ≤ e) (he2 : e ≤ l) {k : Nat} (hk : k < 5) : (f_X5_isPart σ X k (nI e) = some (1, σ) ∧ WP (σ.1 V) p e k) ∨ (f_X5_isPart σ X k (nI e) = some (0, σ) ∧ ¬ WP (σ.1 V) p e k) := by
  obtain ⟨b1, b2⟩ := bz_len_le k hk
  obtain ⟨n, en⟩ : ∃ n, n = bz_len.getD k 0 := ⟨_, rfl⟩
  unfold f_X5_isPart f_J0_length_8abf5 WP
  rw [← en] at b1 b2 ⊢
  rw [bd_n, hXp, pk_sub2 he1]
  by_cases h1 : n = e - p
  · rw [if_pos (by rw [h1])]
    have key : ∀ fuel j, j ≤ n → n - j < fuel → (f_X5_isPart_L17 X k (fun (σ13 : bz_W) => some (1, σ13)) fuel (nI j) σ = some (1, σ) ∧ ∀ i, j ≤ i → i < n → σ.1 V (p + i) = (bz_byt.getD k []).getD i 0) ∨ (f_X5_isPart_L17 X k (fun (σ13 : bz_W) => some (1, σ13)) fuel (nI j) σ = some (0, σ) ∧ ¬ ∀ i, j ≤ i → i < n → σ.1 V (p + i) = (bz_byt.getD k []).getD i 0) := by
      intro fuel
      induction fuel with
      | zero => intro j h2 h3; omega
      | succ f ih =>
        intro j h2 h3
        rw [f_X5_isPart_L17]
        unfold f_J0_length_8abf5 f_J0_charAt_5068e
        rw [← en, bd_n]
        by_cases ej : j = n
        · subst ej
          rw [if_pos (nI_le (Nat.le_refl _) (by omega))]
          exact Or.inl ⟨rfl, fun i h4 h5 => by omega⟩
        · rw [if_neg (nI_ge (by omega) (by omega)), hXp, nI_add, in_nI (by omega) (by omega), ck_n, in_nI (by omega) (by omega), ck_n, bd_n, nI_clamp (by omega), nI_clamp (by omega), hX]
          by_cases hcj : σ.1 V (p + j) = (bz_byt.getD k []).getD j 0
          · rw [if_pos hcj, lt_n, nI_1]
            rcases ih (j + 1) (by omega) (by omega) with ⟨g1, g2⟩ | ⟨g1, g2⟩
            · refine Or.inl ⟨g1, fun i h4 h5 => ?_⟩
              by_cases ei : i = j
              · subst ei; exact hcj
              · exact g2 i (by omega) h5
            · exact Or.inr ⟨g1, fun q => g2 fun i h4 h5 => q i (by omega) h5⟩
          · rw [if_neg hcj]
            exact Or.inr ⟨rfl, fun q => hcj (q j (Nat.le_refl _) (by omega))⟩
    rcases key 1100 0 (Nat.zero_le _) (by omega) with ⟨g1, g2⟩ | ⟨g1, g2⟩
    · rw [nI_0] at g1
      exact Or.inl ⟨g1, h1.symm, fun i hi => g2 i (Nat.zero_le _) hi⟩
    · rw [nI_0] at g1
      exact Or.inr ⟨g1, fun q => g2 fun i _ hi => q.2 i hi⟩
  · have hne : ¬ nI n = nI (e - p) := fun q => h1 ((nI_eq (by omega) (by omega)).mp q)
    rw [if_neg hne]
    exact Or.inr ⟨rfl, fun q => h1 q.1.symm⟩
theorem m_part (hM : τ.2 M 7 = W) (hMp : τ.1 M 8 = nI p) (hl : l ≤ 80) (he1 : p ≤ e) (he2 : e ≤ l) {n : Nat} (h3 : 3 ≤ n) (h5 : n ≤ 5) {a b c d f : Int32} : (f_X7_isWord τ M (nI e) (nI n) a b c d f = some (1, τ) ∧ (e - p = n ∧ τ.1 W p = a ∧ τ.1 W (p + 1) = b ∧ τ.1 W (p + 2) = c ∧ (4 ≤ n → τ.1 W (p + 3) = d) ∧ (5 ≤ n → τ.1 W (p + 4) = f))) ∨ (f_X7_isWord τ M (nI e) (nI n) a b c d f = some (0, τ) ∧ ¬ (e - p = n ∧ τ.1 W p = a ∧ τ.1 W (p + 1) = b ∧ τ.1 W (p + 2) = c ∧ (4 ≤ n → τ.1 W (p + 3) = d) ∧ (5 ≤ n → τ.1 W (p + 4) = f))) := by
  unfold f_X7_isWord
  rw [hMp, pk_sub2 he1]
  by_cases h1 : e - p = n
  · have e1 : nI p + 1 = nI (p + 1) := nI_1 p
    have e2 : nI p + 2 = nI (p + 2) := nI_add p 2
    have e3 : nI p + 3 = nI (p + 3) := nI_add p 3
    have e4 : nI p + 4 = nI (p + 4) := nI_add p 4
    rw [if_pos (by rw [h1]), in_nI (by omega) (by omega), ck_n, nI_clamp (by omega), hM]
    by_cases c0 : τ.1 W p = a
    · rw [if_pos c0, e1, in_nI (by omega) (by omega), ck_n, nI_clamp (by omega)]
      by_cases c1 : τ.1 W (p + 1) = b
      · rw [if_pos c1, e2, in_nI (by omega) (by omega), ck_n, nI_clamp (by omega)]
        by_cases c2 : τ.1 W (p + 2) = c
        · rw [if_pos c2, lt_n]
          have l5 : (nI n < (5 : Int32)) ↔ n < 5 := nI_ltI (b := 5) (by omega) (by omega)
          have l4 : (nI n < (4 : Int32)) ↔ n < 4 := nI_ltI (b := 4) (by omega) (by omega)
          by_cases n4 : n < 4
          · rw [if_pos (l4.mpr n4)]
            dsimp only
            rw [if_pos (l5.mpr (by omega))]
            exact Or.inl ⟨rfl, h1, c0, c1, c2, fun q => by omega, fun q => by omega⟩
          · rw [if_neg (fun q => n4 (l4.mp q)), e3, in_nI (by omega) (by omega), ck_n, nI_clamp (by omega)]
            by_cases c3 : τ.1 W (p + 3) = d
            · rw [if_pos c3]
              dsimp only
              by_cases n5 : n < 5
              · rw [if_pos (l5.mpr n5)]
                exact Or.inl ⟨rfl, h1, c0, c1, c2, fun _ => c3, fun q => by omega⟩
              · rw [if_neg (fun q => n5 (l5.mp q)), hMp, e4, in_nI (by omega) (by omega), ck_n, nI_clamp (by omega), hM]
                by_cases c4 : τ.1 W (p + 4) = f
                · rw [if_pos c4]
                  exact Or.inl ⟨rfl, h1, c0, c1, c2, fun _ => c3, fun _ => c4⟩
                · rw [if_neg c4]
                  exact Or.inr ⟨rfl, fun q => c4 (q.2.2.2.2.2 (by omega))⟩
            · rw [if_neg c3]
              exact Or.inr ⟨rfl, fun q => c3 (q.2.2.2.2.1 (by omega))⟩
        · rw [if_neg c2]
          exact Or.inr ⟨rfl, fun q => c2 q.2.2.2.1⟩
      · rw [if_neg c1]
        exact Or.inr ⟨rfl, fun q => c1 q.2.2.1⟩
    · rw [if_neg c0]
      exact Or.inr ⟨rfl, fun q => c0 q.2.1⟩
  · have hne : ¬ nI (e - p) = nI n := fun q => h1 ((nI_eq (by omega) (by omega)).mp q)
    rw [if_neg hne]
    exact Or.inr ⟨rfl, fun q => h1 q.1⟩
theorem WP_c {c c' : Nat → Int32} {k : Nat} (hl : l ≤ 80) (he1 : p ≤ e) (he2 : e ≤ l) (hc : ∀ j, j < l → c j = c' j) : WP c p e k ↔ WP c' p e k := by
  unfold WP
  constructor
  · rintro ⟨h1, h2⟩
    exact ⟨h1, fun i hi => by rw [← hc _ (by omega)]; exact h2 i hi⟩
  · rintro ⟨h1, h2⟩
    exact ⟨h1, fun i hi => by rw [hc _ (by omega)]; exact h2 i hi⟩
theorem WP_0 {c : Nat → Int32} : WP c p e 0 ↔ (e - p = 5 ∧ c p = 115 ∧ c (p + 1) = 116 ∧ c (p + 2) = 97 ∧ (4 ≤ 5 → c (p + 3) = 114) ∧ (5 ≤ 5 → c (p + 4) = 116)) := by
  constructor
  · rintro ⟨h1, h2⟩
    exact ⟨h1, h2 0 (by decide), h2 1 (by decide), h2 2 (by decide), fun _ => h2 3 (by decide), fun _ => h2 4 (by decide)⟩
  · rintro ⟨h1, c0, c1, c2, c3, c4⟩
    refine ⟨h1, fun i hi => ?_⟩
    have hi' : i < 5 := hi
    rcases (show i = 0 ∨ i = 1 ∨ i = 2 ∨ i = 3 ∨ i = 4 by omega) with rfl | rfl | rfl | rfl | rfl
    · exact c0
    · exact c1
    · exact c2
    · exact c3 (by omega)
    · exact c4 (by omega)
theorem WP_3 {c : Nat → Int32} : WP c p e 3 ↔ (e - p = 5 ∧ c p = 114 ∧ c (p + 1) = 101 ∧ c (p + 2) = 115 ∧ (4 ≤ 5 → c (p + 3) = 101) ∧ (5 ≤ 5 → c (p + 4) = 116)) := by
  constructor
  · rintro ⟨h1, h2⟩
    exact ⟨h1, h2 0 (by decide), h2 1 (by decide), h2 2 (by decide), fun _ => h2 3 (by decide), fun _ => h2 4 (by decide)⟩
  · rintro ⟨h1, c0, c1, c2, c3, c4⟩
    refine ⟨h1, fun i hi => ?_⟩
    have hi' : i < 5 := hi
    rcases (show i = 0 ∨ i = 1 ∨ i = 2 ∨ i = 3 ∨ i = 4 by omega) with rfl | rfl | rfl | rfl | rfl
    · exact c0
    · exact c1
    · exact c2
    · exact c3 (by omega)
    · exact c4 (by omega)
theorem WP_1 {c : Nat → Int32} : WP c p e 1 ↔ (e - p = 4 ∧ c p = 115 ∧ c (p + 1) = 116 ∧ c (p + 2) = 111 ∧ (4 ≤ 4 → c (p + 3) = 112) ∧ (5 ≤ 4 → c (p + 4) = 0)) := by
  constructor
  · rintro ⟨h1, h2⟩
    exact ⟨h1, h2 0 (by decide), h2 1 (by decide), h2 2 (by decide), fun _ => h2 3 (by decide), fun q => by omega⟩
  · rintro ⟨h1, c0, c1, c2, c3, -⟩
    refine ⟨h1, fun i hi => ?_⟩
    have hi' : i < 4 := hi
    rcases (show i = 0 ∨ i = 1 ∨ i = 2 ∨ i = 3 by omega) with rfl | rfl | rfl | rfl
    · exact c0
    · exact c1
    · exact c2
    · exact c3 (by omega)
theorem WP_2 {c : Nat → Int32} : WP c p e 2 ↔ (e - p = 4 ∧ c p = 108 ∧ c (p + 1) = 111 ∧ c (p + 2) = 115 ∧ (4 ≤ 4 → c (p + 3) = 101) ∧ (5 ≤ 4 → c (p + 4) = 0)) := by
  constructor
  · rintro ⟨h1, h2⟩
    exact ⟨h1, h2 0 (by decide), h2 1 (by decide), h2 2 (by decide), fun _ => h2 3 (by decide), fun q => by omega⟩
  · rintro ⟨h1, c0, c1, c2, c3, -⟩
    refine ⟨h1, fun i hi => ?_⟩
    have hi' : i < 4 := hi
    rcases (show i = 0 ∨ i = 1 ∨ i = 2 ∨ i = 3 by omega) with rfl | rfl | rfl | rfl
    · exact c0
    · exact c1
    · exact c2
    · exact c3 (by omega)
theorem WP_4 {c : Nat → Int32} : WP c p e 4 ↔ (e - p = 3 ∧ c p = 102 ∧ c (p + 1) = 97 ∧ c (p + 2) = 110 ∧ (4 ≤ 3 → c (p + 3) = 0) ∧ (5 ≤ 3 → c (p + 4) = 0)) := by
  constructor
  · rintro ⟨h1, h2⟩
    exact ⟨h1, h2 0 (by decide), h2 1 (by decide), h2 2 (by decide), fun q => by omega, fun q => by omega⟩
  · rintro ⟨h1, c0, c1, c2, -, -⟩
    refine ⟨h1, fun i hi => ?_⟩
    have hi' : i < 3 := hi
    rcases (show i = 0 ∨ i = 1 ∨ i = 2 by omega) with rfl | rfl | rfl
    · exact c0
    · exact c1
    · exact c2
theorem t_word (hX : σ.2 X 0 = V) (hXp : σ.1 X 2 = nI p) (hM : τ.2 M 7 = W) (hMp : τ.1 M 8 = nI p) (hl : l ≤ 80) (he1 : p ≤ e) (he2 : e ≤ l) (hc : ∀ j, j < l → σ.1 V j = τ.1 W j) (he : f_X5_partEnd σ X = some (nI e, σ)) : (f_X5_readOrder σ X = some (0, σ) ∧ f_X7_wordAt τ M (nI e) = some (-4, τ)) ∨ ∃ w, w ≤ 4 ∧ p + 3 ≤ e ∧ f_X5_readOrder σ X = some (1, bz_wi (bz_wi σ X 4 (nI w)) X 2 (nI e)) ∧ f_X7_wordAt τ M (nI e) = some (nI w, τ) := by
  have both : ∀ {k n : Nat} {a b c d f : Int32}, k < 5 → 3 ≤ n → n ≤ 5 → (WP (τ.1 W) p e k ↔ (e - p = n ∧ τ.1 W p = a ∧ τ.1 W (p + 1) = b ∧ τ.1 W (p + 2) = c ∧ (4 ≤ n → τ.1 W (p + 3) = d) ∧ (5 ≤ n → τ.1 W (p + 4) = f))) → (p + 3 ≤ e ∧ f_X5_isPart σ X k (nI e) = some (1, σ) ∧ f_X7_isWord τ M (nI e) (nI n) a b c d f = some (1, τ)) ∨ (f_X5_isPart σ X k (nI e) = some (0, σ) ∧ f_X7_isWord τ M (nI e) (nI n) a b c d f = some (0, τ)) := by
    intro k n a b c d f hk h3 h5 hW
    have hw := WP_c (p := p) (e := e) (k := k) hl he1 he2 hc
    have hlen := bz_len_le k hk
    rcases c_part (σ := σ) hX hXp hl he1 he2 hk with ⟨g1, g2⟩ | ⟨g1, g2⟩
    · rcases m_part (τ := τ) hM hMp hl he1 he2 h3 h5 (a := a) (b := b) (c := c) (d := d) (f := f) with ⟨k1, k2⟩ | ⟨k1, k2⟩
      · exact Or.inl ⟨by omega, g1, k1⟩
      · exact absurd (hW.mp (hw.mp g2)) k2
    · rcases m_part (τ := τ) hM hMp hl he1 he2 h3 h5 (a := a) (b := b) (c := c) (d := d) (f := f) with ⟨k1, k2⟩ | ⟨k1, k2⟩
      · exact absurd (hw.mpr (hW.mpr k2)) g2
      · exact Or.inr ⟨g1, k1⟩
  have b0 := both (k := 0) (n := 5) (by omega) (by omega) (by omega) WP_0
  have b1 := both (k := 1) (n := 4) (by omega) (by omega) (by omega) WP_1
  have b2 := both (k := 2) (n := 4) (by omega) (by omega) (by omega) WP_2
  have b3 := both (k := 3) (n := 5) (by omega) (by omega) (by omega) WP_3
  have b4 := both (k := 4) (n := 3) (by omega) (by omega) (by omega) WP_4
  clear both
  have l5 : nI 5 = (5 : Int32) := rfl
  have l4 : nI 4 = (4 : Int32) := rfl
  have l3 : nI 3 = (3 : Int32) := rfl
  rw [l5] at b0 b3
  rw [l4] at b1 b2
  rw [l3] at b4
  unfold f_X5_readOrder f_X7_wordAt
  rw [he, bd_n]
  have w0 : f_X5_wordOf σ 0 = some (0, σ) := rfl
  have w1 : f_X5_wordOf σ (0 + 1) = some (1, σ) := rfl
  have w2 : f_X5_wordOf σ (0 + 1 + 1) = some (2, σ) := rfl
  have w3 : f_X5_wordOf σ (0 + 1 + 1 + 1) = some (3, σ) := rfl
  have w4 : f_X5_wordOf σ (0 + 1 + 1 + 1 + 1) = some (4, σ) := rfl
  rw [f_X5_readOrder_L7, if_neg (by decide), w0, bd_n]
  rcases b0 with ⟨q, g1, g2⟩ | ⟨g1, g2⟩
  · rw [g1, g2, bd_n, bd_n, if_neg (by decide), if_neg (by decide), lt_n, lt_n]
    exact Or.inr ⟨0, by omega, q, rfl, rfl⟩
  rw [g1, g2, bd_n, bd_n, if_pos rfl, if_pos rfl, lt_n, f_X5_readOrder_L7, if_neg (by decide), w1, bd_n]
  rcases b1 with ⟨q, g1, g2⟩ | ⟨g1, g2⟩
  · rw [g1, g2, bd_n, bd_n, if_neg (by decide), if_neg (by decide), lt_n, lt_n]
    exact Or.inr ⟨1, by omega, q, rfl, rfl⟩
  rw [g1, g2, bd_n, bd_n, if_pos rfl, if_pos rfl, lt_n, f_X5_readOrder_L7, if_neg (by decide), w2, bd_n]
  rcases b2 with ⟨q, g1, g2⟩ | ⟨g1, g2⟩
  · rw [g1, g2, bd_n, bd_n, if_neg (by decide), if_neg (by decide), lt_n, lt_n]
    exact Or.inr ⟨2, by omega, q, rfl, rfl⟩
  rw [g1, g2, bd_n, bd_n, if_pos rfl, if_pos rfl, lt_n, f_X5_readOrder_L7, if_neg (by decide), w3, bd_n]
  rcases b3 with ⟨q, g1, g2⟩ | ⟨g1, g2⟩
  · rw [g1, g2, bd_n, bd_n, if_neg (by decide), if_neg (by decide), lt_n, lt_n]
    exact Or.inr ⟨3, by omega, q, rfl, rfl⟩
  rw [g1, g2, bd_n, bd_n, if_pos rfl, if_pos rfl, lt_n, f_X5_readOrder_L7, if_neg (by decide), w4, bd_n]
  rcases b4 with ⟨q, g1, g2⟩ | ⟨g1, g2⟩
  · rw [g1, g2, bd_n, bd_n, if_neg (by decide), if_neg (by decide), lt_n, lt_n]
    exact Or.inr ⟨4, by omega, q, rfl, rfl⟩
  rw [g1, g2, bd_n, bd_n, if_pos rfl, if_pos rfl, lt_n, f_X5_readOrder_L7, if_pos (by decide)]
  exact Or.inl ⟨rfl, rfl⟩
end WRD
