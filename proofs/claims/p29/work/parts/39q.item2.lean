/-! reading a text: a whole item -/
section IW
variable {X V M W D l n p last : Nat} {σ τ : bz_W}
theorem FC.trans {X : Nat} {σ σ' σ2 : bz_W} (h : FC X σ σ') (g : FC X σ' σ2) : FC X σ σ2 := ⟨g.1.trans h.1, fun x hx => (g.2.1 x hx).trans (h.2.1 x hx), g.2.2.1.trans h.2.2.1, g.2.2.2.trans h.2.2.2⟩
theorem FM.trans {M D n : Nat} {σ σ' σ2 : bz_W} (h : FM M D n σ σ') (g : FM M D n σ' σ2) : FM M D n σ σ2 := ⟨g.1.trans h.1, fun x h1 h2 => (g.2.1 x h1 h2).trans (h.2.1 x h1 h2), fun w h1 h2 => (g.2.2.1 w h1 h2).trans (h.2.2.1 w h1 h2), fun j hj => (g.2.2.2 j hj).trans (h.2.2.2 j hj)⟩
theorem item_read (h : TS X V M W D σ τ l p n last) (hXV : X ≠ V) (hMW : M ≠ W) (hDW : D ≠ W) (hMD : M ≠ D) : (∃ σ' τ' p', f_X5_readItem σ X = some (0, σ') ∧ f_X7_readsItem τ M = some (0, τ') ∧ σ'.1 X 2 = nI p' ∧ τ'.1 M 8 = nI p' ∧ FC X σ σ' ∧ FM M D n τ τ') ∨ (∃ σ' τ' p' last' w f x, f_X5_readItem σ X = some (1, σ') ∧ f_X7_readsItem τ M = Q3 M τ' ∧ p + 7 ≤ p' ∧ p' ≤ l ∧ last' ≤ 9999 ∧ w ≤ 4 ∧ f ≤ 7 ∧ (w = 4 → f ≤ 1) ∧ (if w = 2 then ∃ q : Nat, q ≤ 7 ∧ x = nI q else x = -4) ∧ (σ'.1 X 2 = nI p' ∧ σ'.1 X 3 = nI last' ∧ σ'.1 X 4 = nI w ∧ σ'.1 X 5 = nI f ∧ σ'.1 X 6 = x) ∧ (τ'.1 M 8 = nI p' ∧ τ'.1 M 9 = nI n ∧ τ'.1 D (4 * n) = nI last' ∧ τ'.1 D (4 * n + 1) = nI w ∧ τ'.1 D (4 * n + 2) = nI f ∧ τ'.1 D (4 * n + 3) = x) ∧ FC X σ σ' ∧ FM M D n τ τ') := by
  have hDM : D ≠ M := Ne.symm hMD
  obtain ⟨⟨a1, a2, a3, a4⟩, ⟨b1, b2, b3, b4, b5⟩, n0, n1, hla, hl, hp, hn, hc⟩ := id h
  have B0 : BS X V M W D l n σ τ p := ⟨⟨a1, a2, a3⟩, ⟨b1, b2, b3, b4, b5⟩, hc⟩
  have q1 : nI (4 * n) + 1 = nI (4 * n + 1) := nI_1 _
  obtain ⟨e, he1, he2, hec, hem⟩ := B0.end hl hp
  rw [reads_Q1 h hem]
  unfold f_X5_readItem Q1
  rcases t_time a1 a3 b1 b4 hl he1 he2 hc hec a4 hla with ⟨g1, g2⟩ | ⟨t, t1, t2, t3, g1, g2⟩
  · rw [g1, g2, bd_n, bd_n, if_pos rfl, in_nI (by omega) (by omega), ck_n, lt_n, ck_n, wi_2, b2, nI_clamp (by omega), wi_ss, if_pos rfl]
    exact Or.inl ⟨_, _, p, rfl, rfl, a3, by rw [wi_o _ _ _ hMD]; exact b4, FC.refl X σ, (FM.refl M D n τ).wiD hMD _ (by omega)⟩
  rw [g1, g2, bd_n, bd_n, if_neg (show ¬ (1 : Int32) = 0 by decide), in_nI (by omega) (by omega), ck_n, lt_n, ck_n, wi_2, b2, nI_clamp (by omega), wi_ss, if_neg (nI_m4 (by omega)), lt_n]
  obtain ⟨s1, es1⟩ : ∃ s, s = bz_wi (bz_wi σ X 3 (nI t)) X 2 (nI e) := ⟨_, rfl⟩
  obtain ⟨u1, eu1⟩ : ∃ s, s = bz_wi (bz_wi τ D (4 * n) (nI t)) M 8 (nI e) := ⟨_, rfl⟩
  rw [← es1, ← eu1]
  have G1 : FC X σ s1 := by rw [es1]; exact ((FC.refl X σ).wi _ (by omega)).wi _ (by omega)
  have H1 : FM M D n τ u1 := by rw [eu1]; exact ((FM.refl M D n τ).wiD hMD _ (by omega)).wiM hMD _ (Or.inl rfl)
  have y9 : u1.1 M 9 = nI n := by rw [eu1, wi_so _ _ (by omega), wi_o _ _ _ hMD]; exact b5
  have z0 : u1.1 D (4 * n) = nI t := by rw [eu1, wi_o _ _ _ hDM, wi_ss]
  have x3 : s1.1 X 3 = nI t := by rw [es1, wi_so _ _ (by omega), wi_ss]
  have B1 : BS X V M W D l n s1 u1 e := B0.next G1 H1 hXV hMW hDW (by rw [es1, wi_ss]) (by rw [eu1, wi_ss]) y9
  rcases B1.blank hl he2 with ⟨g1, g2⟩ | ⟨g0, g1, g2⟩
  · rw [g1, g2, bd_n, bd_n, if_pos rfl, if_pos rfl]
    exact Or.inl ⟨s1, u1, e, rfl, rfl, B1.1.2.2, B1.2.1.2.2.2.1, G1, H1⟩
  rw [g1, g2, bd_n, bd_n, if_neg (show ¬ (1 : Int32) = 0 by decide), if_neg (show ¬ (1 : Int32) = 0 by decide)]
  obtain ⟨s2, es2⟩ : ∃ s, s = bz_wi s1 X 2 (nI (e + 1)) := ⟨_, rfl⟩
  obtain ⟨u2, eu2⟩ : ∃ s, s = bz_wi u1 M 8 (nI (e + 1)) := ⟨_, rfl⟩
  rw [← es2, ← eu2]
  have G2 : FC X σ s2 := by rw [es2]; exact G1.wi _ (by omega)
  have H2 : FM M D n τ u2 := by rw [eu2]; exact H1.wiM hMD _ (Or.inl rfl)
  have y92 : u2.1 M 9 = nI n := by rw [eu2, wi_so _ _ (by omega)]; exact y9
  have z02 : u2.1 D (4 * n) = nI t := by rw [eu2, wi_o _ _ _ hDM]; exact z0
  have x32 : s2.1 X 3 = nI t := by rw [es2, wi_so _ _ (by omega)]; exact x3
  have B2 : BS X V M W D l n s2 u2 (e + 1) := B0.next G2 H2 hXV hMW hDW (by rw [es2, wi_ss]) (by rw [eu2, wi_ss]) y92
  obtain ⟨e2, k1, k2, k3, k4⟩ := B2.end hl g0
  rw [k4, bd_n]
  rcases B2.word hl k1 k2 k3 with ⟨g1, g2⟩ | ⟨w, w1, w2, g1, g2⟩
  · rw [g1, g2, bd_n, bd_n, if_pos rfl, q1, in_nI (by omega) (by omega), ck_n, lt_n, ck_n, wi_2, B2.2.1.2.1, nI_clamp (by omega), wi_ss, if_pos rfl]
    exact Or.inl ⟨_, _, e + 1, rfl, rfl, B2.1.2.2, by rw [wi_o _ _ _ hMD]; exact B2.2.1.2.2.2.1, G2, H2.wiD hMD _ (by omega)⟩
  rw [g1, g2, bd_n, bd_n, if_neg (show ¬ (1 : Int32) = 0 by decide), q1, in_nI (by omega) (by omega), ck_n, lt_n, ck_n, wi_2, B2.2.1.2.1, nI_clamp (by omega), wi_ss, if_neg (nI_m4 (by omega)), lt_n]
  obtain ⟨s3, es3⟩ : ∃ s, s = bz_wi (bz_wi s2 X 4 (nI w)) X 2 (nI e2) := ⟨_, rfl⟩
  obtain ⟨u3, eu3⟩ : ∃ s, s = bz_wi (bz_wi u2 D (4 * n + 1) (nI w)) M 8 (nI e2) := ⟨_, rfl⟩
  rw [← es3, ← eu3]
  have G3 : FC X σ s3 := by rw [es3]; exact (G2.wi _ (by omega)).wi _ (by omega)
  have H3 : FM M D n τ u3 := by rw [eu3]; exact (H2.wiD hMD _ (by omega)).wiM hMD _ (Or.inl rfl)
  have y93 : u3.1 M 9 = nI n := by rw [eu3, wi_so _ _ (by omega), wi_o _ _ _ hMD]; exact y92
  have z03 : u3.1 D (4 * n) = nI t := by rw [eu3, wi_o _ _ _ hDM, wi_so _ _ (by omega)]; exact z02
  have z13 : u3.1 D (4 * n + 1) = nI w := by rw [eu3, wi_o _ _ _ hDM, wi_ss]
  have x33 : s3.1 X 3 = nI t := by rw [es3, wi_so _ _ (by omega), wi_so _ _ (by omega)]; exact x32
  have x43 : s3.1 X 4 = nI w := by rw [es3, wi_so _ _ (by omega), wi_ss]
  have B3 : BS X V M W D l n s3 u3 e2 := B0.next G3 H3 hXV hMW hDW (by rw [es3, wi_ss]) (by rw [eu3, wi_ss]) y93
  rcases B3.blank hl k2 with ⟨g1, g2⟩ | ⟨g0', g1, g2⟩
  · rw [g1, g2, bd_n, bd_n, if_pos rfl, if_pos rfl]
    exact Or.inl ⟨s3, u3, e2, rfl, rfl, B3.1.2.2, B3.2.1.2.2.2.1, G3, H3⟩
  rw [g1, g2, bd_n, bd_n, if_neg (show ¬ (1 : Int32) = 0 by decide), if_neg (show ¬ (1 : Int32) = 0 by decide)]
  obtain ⟨s4, es4⟩ : ∃ s, s = bz_wi s3 X 2 (nI (e2 + 1)) := ⟨_, rfl⟩
  obtain ⟨u4, eu4⟩ : ∃ s, s = bz_wi u3 M 8 (nI (e2 + 1)) := ⟨_, rfl⟩
  rw [← es4, ← eu4]
  have G4 : FC X σ s4 := by rw [es4]; exact G3.wi _ (by omega)
  have H4 : FM M D n τ u4 := by rw [eu4]; exact H3.wiM hMD _ (Or.inl rfl)
  have y94 : u4.1 M 9 = nI n := by rw [eu4, wi_so _ _ (by omega)]; exact y93
  have z04 : u4.1 D (4 * n) = nI t := by rw [eu4, wi_o _ _ _ hDM]; exact z03
  have z14 : u4.1 D (4 * n + 1) = nI w := by rw [eu4, wi_o _ _ _ hDM]; exact z13
  have x34 : s4.1 X 3 = nI t := by rw [es4, wi_so _ _ (by omega)]; exact x33
  have x44 : s4.1 X 4 = nI w := by rw [es4, wi_so _ _ (by omega)]; exact x43
  have B4 : BS X V M W D l n s4 u4 (e2 + 1) := B0.next G4 H4 hXV hMW hDW (by rw [es4, wi_ss]) (by rw [eu4, wi_ss]) y94
  obtain ⟨om, eom⟩ : ∃ om, om = (bd_ (f_X7_end u4 M) fun r33 σ34 => Q2 M (nI (4 * n)) r33 (if w = 4 then 1 else 7) D σ34) := ⟨_, rfl⟩
  have hN := nums_read B4 hl g0' hn hXV hMW hDW hMD w1 x44 z14
  rw [← eom] at hN
  obtain ⟨e3, m1, m2, m3, m4⟩ := B4.end hl g0'
  rw [m4, bd_n, B4.2.1.2.1, ck_n, lt_n, z14]
  have hom : om = (if nI w = (4 : Int32) then (fun (y38 : Int32) (σ39 : bz_W) => Q2 M (nI (4 * n)) (nI e3) y38 D σ39) 1 u4 else (fun (y38 : Int32) (σ39 : bz_W) => Q2 M (nI (4 * n)) (nI e3) y38 D σ39) 7 u4) := by
    rw [eom, m4, bd_n]
    by_cases q : w = 4
    · rw [if_pos q, if_pos (by rw [q]; rfl)]
    · rw [if_neg q, if_neg (show ¬ nI w = (4 : Int32) from fun c => q ((nI_eq (b := 4) (by omega) (by omega)).mp c))]
  unfold Q2 at hom
  simp only [q1, in_nI (show 4 * n + 1 < 48 by omega) (show 4 * n + 1 < 2 ^ 31 by omega), nI_clamp (show 4 * n + 1 < 2 ^ 31 by omega), in_nI (show 4 * n < 48 by omega) (show 4 * n < 2 ^ 31 by omega), nI_clamp (show 4 * n < 2 ^ 31 by omega)] at hom
  rcases hN with ⟨σ', τ', p', c1, c2, c3, c4, c5, c6⟩ | ⟨σ', τ', p', f, x, c1, c2, c3, c4, c5, c6, c7, ⟨d1, d2, d3, d4, d5⟩, ⟨v1, v2, v3, v4, v5, v6⟩, c8, c9⟩
  · rw [c1, bd_n, if_pos rfl]
    exact Or.inl ⟨σ', τ', p', rfl, hom.symm.trans c2, c3, c4, G4.trans c5, H4.trans c6⟩
  · rw [c1, bd_n, if_neg (show ¬ (1 : Int32) = 0 by decide)]
    exact Or.inr ⟨σ', τ', p', t, w, f, x, rfl, hom.symm.trans c2, by omega, c4, t2, w1, c5, c6, c7, ⟨d1, d2.trans x34, d3, d4, d5⟩, ⟨v1, v2, v3.trans z04, v4, v5, v6⟩, G4.trans c8, H4.trans c9⟩
end IW
