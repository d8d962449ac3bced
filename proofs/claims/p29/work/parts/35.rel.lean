/-! the relation between the class's memory and the model's -/
def St (σ : bz_W) (a : Nat) (r : Nat → Int32) (C T : Nat) : Prop := ∃ cnt ck t sz nx, RS σ a r cnt ck t sz nx ∧ IS r cnt ck t sz nx ∧ ck ≤ C ∧ t ≤ T
def HsP (hs : Nat → Nat) : Prop := (∀ i, i < 4 → hs i < 4) ∧ ∀ i j, i < 4 → j < 4 → hs i = hs j → i = j
def LyC (ρ : Nat → Nat → Nat) (z : Nat) (hs : Nat → Nat) : Prop := 0 < z ∧ (ρ z 0 = z + 1 ∧ ρ z 1 = z + 28 ∧ ρ z 2 = z + 138 ∧ ρ z 4 = z + 165 ∧ ρ z 5 = z + 167 ∧ ρ z 6 = z + 172 ∧ ρ (z + 28) 0 = z + 29 ∧ ρ (z + 165) 0 = z + 166) ∧ (ρ (z + 167) 0 = z + 168 ∧ ρ (z + 167) 1 = z + 169 ∧ ρ (z + 167) 2 = z + 170 ∧ ρ (z + 167) 3 = z + 171) ∧ LyS ρ (z + 1) ∧ LyS ρ (z + 138) ∧ (∀ i, i < 4 → LyS ρ (z + 30 + 27 * i)) ∧ ∀ i, i < 4 → ρ (z + 29) i = z + 30 + 27 * hs i
def NmA (σ : bz_W) (z : Nat) : Prop := NmS σ (z + 1) ∧ NmS σ (z + 138) ∧ ∀ i, i < 4 → NmS σ (z + 30 + 27 * i)
def Hist (z : Nat) (hs : Nat → Nat) (C T : Nat) (σ : bz_W) (n : Nat) (h : Nat → Int32) : Prop := ∀ j, j < n → St σ (z + 30 + 27 * hs j) (fun x => h (246 * j + x)) C T
def Snap (z C T : Nat) (σ τ : bz_W) : Prop := (σ.1 z 3 = 0 ∧ τ.1 (z + 173) 4 = 0) ∨ (σ.1 z 3 = 1 ∧ τ.1 (z + 173) 4 = 1 ∧ St σ (z + 138) (τ.1 (z + 176)) C T)
def Txt (z : Nat) (σ τ : bz_W) : Prop := ∃ l, l ≤ 80 ∧ σ.1 (z + 165) 1 = nI l ∧ τ.1 (z + 173) 6 = nI l ∧ ∀ j, j < l → σ.1 (z + 166) j = τ.1 (z + 177) j
def RelN (z C T : Nat) (hs : Nat → Nat) (σ τ : bz_W) (n : Nat) : Prop := HsP hs ∧ LyC σ.2 z hs ∧ LyM τ.2 (z + 173) ∧ St σ (z + 1) (τ.1 (z + 174)) C T ∧ NmA σ z ∧ σ.1 z 7 = τ.1 (z + 173) 5 ∧ (n ≤ 4 ∧ σ.1 (z + 28) 1 = nI n ∧ τ.1 (z + 173) 2 = nI n ∧ Hist z hs C T σ n (τ.1 (z + 175))) ∧ Snap z C T σ τ ∧ Txt z σ τ
def Rel (z C T : Nat) (σ τ : bz_W) : Prop := ∃ hs n, RelN z C T hs σ τ n
def bz_Rel (z k : Nat) (σ τ : bz_W) : Prop := Rel z (60 * k) (1000 * k) σ τ
section ST
variable {σ : bz_W} {a b C T C' T' : Nat} {r r' : Nat → Int32}
theorem St.mono (h : St σ a r C T) (hC : C ≤ C') (hT : T ≤ T') : St σ a r C' T' := by
  obtain ⟨cnt, ck, t, sz, nx, h1, h2, h3, h4⟩ := h
  exact ⟨cnt, ck, t, sz, nx, h1, h2, by omega, by omega⟩
theorem St.keep {σ' : bz_W} (h : St σ a r C T) (hx : ∀ x, a ≤ x → x < a + 27 → σ'.1 x = σ.1 x) : St σ' a r C T := by
  obtain ⟨cnt, ck, t, sz, nx, h1, h2, h3, h4⟩ := h
  exact ⟨cnt, ck, t, sz, nx, h1.keep h2.1 hx, h2, h3, h4⟩
theorem St.congr (h : St σ a r C T) (hr : ∀ x, x < 246 → r' x = r x) : St σ a r' C T := by
  obtain ⟨cnt, ck, t, sz, nx, h1, h2, h3, h4⟩ := h
  exact ⟨cnt, ck, t, sz, nx, h1.congr h2.1 h2.2.2.2.1 hr, h2.congr hr, h3, h4⟩
theorem St.copy (hA : LyS σ.2 a) (hB : LyS σ.2 b) (hd : a + 27 ≤ b ∨ b + 27 ≤ a) (h : St σ b r C T) : ∃ σ', f_X3_copyFrom σ a b = some (0, σ') ∧ σ'.2 = σ.2 ∧ (∀ x, (x < a ∨ a + 27 ≤ x) → σ'.1 x = σ.1 x) ∧ (NmS σ a → NmS σ' a) ∧ St σ' a r C T := by
  obtain ⟨cnt, ck, t, sz, nx, h1, h2, h3, h4⟩ := h
  obtain ⟨σ', g1, g2, g3, g4, g5⟩ := c_scopy hA hB hd h1 h2
  exact ⟨σ', g1, g2, g3, g4, cnt, ck, t, sz, nx, g5, h2, h3, h4⟩
end ST
theorem LyC.keep {ρ ρ' : Nat → Nat → Nat} {z : Nat} {hs hs' : Nat → Nat} (h : LyC ρ z hs) (hx : ∀ x, x ≠ z + 29 → ρ' x = ρ x) (hr : ∀ i, i < 4 → ρ' (z + 29) i = z + 30 + 27 * hs' i) : LyC ρ' z hs' := by
  obtain ⟨hz, a1, a2, a3, a4, a5, a6⟩ := h
  have lk : ∀ a, (a + 27 ≤ z + 29 ∨ z + 29 < a) → LyS ρ a → LyS ρ' a := fun a hd hl => by
    unfold LyS at hl ⊢
    rw [hx a (by omega), hx (a + 1) (by omega), hx (a + 18) (by omega), hx (a + 23) (by omega)]
    refine ⟨hl.1, hl.2.1, hl.2.2.1, fun i hi => ?_, hl.2.2.2.2⟩
    rw [hx (a + 2 + 2 * i) (by omega)]
    exact hl.2.2.2.1 i hi
  refine ⟨hz, ?_, ?_, lk _ (by omega) a3, lk _ (by omega) a4, fun i hi => lk _ (by omega) (a5 i hi), hr⟩
  · rw [hx z (by omega), hx (z + 28) (by omega), hx (z + 165) (by omega)]
    exact a1
  · rw [hx (z + 167) (by omega)]
    exact a2
theorem c_drop {σ : bz_W} {z : Nat} (h0 : σ.2 (z + 28) 0 = z + 29) : ∃ σ', f_X1_dropOldest σ (z + 28) = some (0, σ') ∧ σ'.1 = (bz_wi σ (z + 28) 1 3).1 ∧ (∀ x, x ≠ z + 29 → σ'.2 x = σ.2 x) ∧ σ'.2 (z + 29) 0 = σ.2 (z + 29) 1 ∧ σ'.2 (z + 29) 1 = σ.2 (z + 29) 2 ∧ σ'.2 (z + 29) 2 = σ.2 (z + 29) 3 ∧ σ'.2 (z + 29) 3 = σ.2 (z + 29) 0 := by
  have w1 : ∀ (τ : bz_W) (k r : Nat), (bz_wr τ (z + 29) k r).2 (z + 28) = τ.2 (z + 28) := fun τ k r => (bz_wr_o (z + 28) (by omega)).2
  unfold f_X1_dropOldest
  rw [f_X1_dropOldest_L9, if_neg (by decide), show in_ 1 4 = true from rfl, show in_ (1 - 1) 4 = true from rfl, ck_t, ck_t, lt_d, lt_d]
  rw [f_X1_dropOldest_L9, if_neg (by decide), show in_ (1 + 1) 4 = true from rfl, show in_ (1 + 1 - 1) 4 = true from rfl, ck_t, ck_t, lt_d, lt_d]
  rw [f_X1_dropOldest_L9, if_neg (by decide), show in_ (1 + 1 + 1) 4 = true from rfl, show in_ (1 + 1 + 1 - 1) 4 = true from rfl, ck_t, ck_t, lt_d, lt_d]
  rw [f_X1_dropOldest_L9, if_pos (by decide)]
  simp only [lt_d, w1, h0]
  refine ⟨_, rfl, ?_, fun x hx => ?_, ?_, ?_, ?_, ?_⟩
  · rfl
  · simp [wi_2, bz_wr, hx]
  · simp [wi_2, bz_wr]
  · simp [wi_2, bz_wr]
  · simp [wi_2, bz_wr]
  · simp [wi_2, bz_wr]
theorem RelN.record {z C T n : Nat} {hs : Nat → Nat} {σ τ : bz_W} (h : RelN z C T hs σ τ n) : ∃ hs' σ' τ' n', f_X1_record σ (z + 28) (z + 1) = some (0, σ') ∧ f_X7_record τ (z + 173) = some (0, τ') ∧ RelN z C T hs' σ' τ' n' ∧ (∀ x, (x < z + 28 ∨ z + 138 ≤ x) → σ'.1 x = σ.1 x ∧ σ'.2 x = σ.2 x) ∧ τ'.2 = τ.2 ∧ (∀ x, x ≠ z + 173 → x ≠ z + 175 → τ'.1 x = τ.1 x) ∧ ∀ w, w ≠ 2 → τ'.1 (z + 173) w = τ.1 (z + 173) w := by
  obtain ⟨⟨hp1, hp2⟩, hC, hM, hS, hN, hr, ⟨hn, k1, k2, hH⟩, hSn, hT⟩ := h
  have e28 := hC.2.1.2.2.2.2.2.2.1
  -- the record proper, from a memory with fewer than four
  have main : ∀ (hs : Nat → Nat) (σ1 : bz_W) (n : Nat), HsP hs → LyC σ1.2 z hs → n < 4 → σ1.1 (z + 28) 1 = nI n → St σ1 (z + 1) (τ.1 (z + 174)) C T → NmA σ1 z → Hist z hs C T σ1 n (fun x => (if n = 3 ∧ σ.1 (z + 28) 1 = nI 4 then shl (τ.1 (z + 175)) 738 else τ.1 (z + 175)) x) → ∃ σ', (ck_ (in_ (σ1.1 (z + 28) 1) 4) (bd_ (f_X3_copyFrom σ1 (σ1.2 (σ1.2 (z + 28) 0) ((σ1.1 (z + 28) 1) : Int32).toNatClampNeg) (z + 1)) fun _ σ7 => lt_ (bz_wi σ7 (z + 28) 1 ((σ7.1 (z + 28) 1) + 1)) fun σ8 => some ((0 : Int32), σ8))) = some (0, σ') ∧ LyC σ'.2 z hs ∧ σ'.1 (z + 28) 1 = nI (n + 1) ∧ (∀ x, (x < z + 28 ∨ z + 138 ≤ x) → σ'.1 x = σ1.1 x) ∧ σ'.2 = σ1.2 ∧ NmA σ' z ∧ Hist z hs C T σ' (n + 1) (blit (if n = 3 ∧ σ.1 (z + 28) 1 = nI 4 then shl (τ.1 (z + 175)) 738 else τ.1 (z + 175)) (τ.1 (z + 174)) (246 * n) 246) := by
    intro hs σ1 n ⟨p1, p2⟩ hC1 hn4 hk hS1 hN1 hH1
    obtain ⟨hz, ⟨-, -, -, -, -, -, f28, -⟩, -, l1, l2, l3, l4⟩ := id hC1
    have hb := p1 n hn4
    rw [hk, in_nI hn4 (by omega), ck_t, nI_clamp (by omega), f28, l4 n hn4]
    obtain ⟨σ2, g1, g2, g3, g4, g5⟩ := hS1.copy (l3 _ hb) l1 (by omega)
    rw [g1, bd_s, lt_d, g3 (z + 28) (by omega), hk, nI_1]
    have fr : ∀ x, x ≠ z + 28 → (x < z + 30 + 27 * hs n ∨ z + 30 + 27 * hs n + 27 ≤ x) → (bz_wi σ2 (z + 28) 1 (nI (n + 1))).1 x = σ1.1 x := fun x h1 h2 => by rw [wi_o _ _ _ h1, g3 x h2]
    refine ⟨_, rfl, ?_, by rw [wi_ss], fun x hx => fr x (by omega) (by omega), by rw [wi_2, g2], ⟨hN1.1.keep fun x h1 h2 => fr x (by omega) (by omega), hN1.2.1.keep fun x h1 h2 => fr x (by omega) (by omega), fun i hi => ?_⟩, fun j hj => ?_⟩
    · rw [wi_2, g2]; exact hC1
    · by_cases e : i = hs n
      · subst e
        exact (g4 (hN1.2.2 _ hi)).keep fun x h1 h2 => wi_o _ _ _ (by omega)
      · exact (hN1.2.2 i hi).keep fun x h1 h2 => fr x (by omega) (by omega)
    · by_cases e : j = n
      · subst e
        refine St.congr (r := τ.1 (z + 174)) (g5.keep fun x h1 h2 => wi_o _ _ _ (by omega)) fun x hx => ?_
        have : 246 * j ≤ 246 * j + x ∧ 246 * j + x < 246 * j + 246 := by omega
        simp only [blit, if_pos this, Nat.add_sub_cancel_left]
      · have hj' : j < n := by omega
        have hne : hs j ≠ hs n := fun q => e (p2 j n (by omega) hn4 q)
        have hjb := p1 j (by omega)
        refine ((hH1 j hj').keep fun x h1 h2 => fr x (by omega) (by omega)).congr fun x hx => ?_
        have : ¬ (246 * n ≤ 246 * j + x ∧ 246 * j + x < 246 * n + 246) := by omega
        simp only [blit, if_neg this]
  unfold f_X1_record
  rw [lt_d, k1]
  by_cases h4 : n < 4
  · rw [if_pos (show nI n < (4 : Int32) from nI_lt (b := 4) h4 (by omega))]
    have hne : ¬ (n = 3 ∧ σ.1 (z + 28) 1 = nI 4) := by
      rintro ⟨e1, e2⟩
      rw [k1] at e2
      have := (nI_eq (by omega) (by omega)).mp e2
      omega
    obtain ⟨σ', g1, g2, g3, g4, g5, g6, g7⟩ := main hs σ n ⟨hp1, hp2⟩ hC h4 k1 hS hN (by simp only [if_neg hne]; exact hH)
    rw [if_neg hne] at g7
    have hm := m_record hM h4 k2
    have z1 : z + 173 + 1 = z + 174 := by omega
    have z2 : z + 173 + 2 = z + 175 := by omega
    rw [z1, z2] at hm
    refine ⟨hs, σ', _, n + 1, g1, hm, ⟨⟨hp1, hp2⟩, g2, hM, ?_, g6, ?_, ⟨by omega, g3, by rw [wi_ss], ?_⟩, ?_, ?_⟩, fun x hx => ⟨g4 x hx, by rw [g5]⟩, rfl, fun x h1 h2 => by rw [wi_o _ _ _ h1, wb_o _ _ h2], fun w hw => by rw [wi_so _ _ hw, wb_o _ _ (by omega)]⟩
    · rw [wi_o _ _ _ (by omega), wb_o _ _ (by omega)]
      exact hS.keep fun x h1 h2 => g4 x (by omega)
    · rw [wi_so _ _ (by omega), wb_o _ _ (by omega), g4 z (by omega)]
      exact hr
    · rw [wi_o _ _ _ (by omega), wb_s]
      exact g7
    · unfold Snap at hSn ⊢
      rw [wi_so _ _ (by omega), wb_o _ _ (by omega), g4 z (by omega), wi_o _ _ _ (by omega), wb_o _ _ (by omega)]
      rcases hSn with q | ⟨q1, q2, q3⟩
      · exact Or.inl q
      · exact Or.inr ⟨q1, q2, q3.keep fun x h1 h2 => g4 x (by omega)⟩
    · unfold Txt at hT ⊢
      rw [wi_so _ _ (by omega), wb_o _ _ (by omega), wi_o _ _ _ (by omega), wb_o _ _ (by omega), g4 _ (by omega), g4 _ (by omega)]
      exact hT
  · have e4 : n = 4 := by omega
    subst e4
    rw [if_neg (by decide)]
    obtain ⟨σ1, d1, d2, d3, d4, d5, d6, d7⟩ := c_drop e28
    obtain ⟨hz, ⟨b1, b2, b3, b4, b5, b6, f28, b8⟩, hb9, l1, l2, l3, l4⟩ := id hC
    obtain ⟨hs', ehs⟩ : ∃ hs' : Nat → Nat, hs' = fun i => if i = 3 then hs 0 else hs (i + 1) := ⟨_, rfl⟩
    have q0 : hs' 0 = hs 1 := by rw [ehs]; rfl
    have q1 : hs' 1 = hs 2 := by rw [ehs]; rfl
    have q2 : hs' 2 = hs 3 := by rw [ehs]; rfl
    have q3 : hs' 3 = hs 0 := by rw [ehs]; rfl
    have c4 : ∀ i, i < 4 → i = 0 ∨ i = 1 ∨ i = 2 ∨ i = 3 := fun i hi => by omega
    have hp' : HsP hs' := by
      refine ⟨fun i hi => ?_, fun i j hi hj e => ?_⟩
      · rcases c4 i hi with rfl | rfl | rfl | rfl
        · rw [q0]; exact hp1 _ (by omega)
        · rw [q1]; exact hp1 _ (by omega)
        · rw [q2]; exact hp1 _ (by omega)
        · rw [q3]; exact hp1 _ (by omega)
      · have r01 := hp2 0 1 (by omega) (by omega)
        have r02 := hp2 0 2 (by omega) (by omega)
        have r03 := hp2 0 3 (by omega) (by omega)
        have r12 := hp2 1 2 (by omega) (by omega)
        have r13 := hp2 1 3 (by omega) (by omega)
        have r23 := hp2 2 3 (by omega) (by omega)
        rcases c4 i hi with rfl | rfl | rfl | rfl <;> rcases c4 j hj with rfl | rfl | rfl | rfl <;> simp only [q0, q1, q2, q3] at e <;> omega
    have s1 : ∀ x, x ≠ z + 28 → σ1.1 x = σ.1 x := fun x hx => by rw [d2, wi_o _ _ _ hx]
    have hC1 : LyC σ1.2 z hs' := by
      refine hC.keep d3 fun i hi => ?_
      rcases c4 i hi with rfl | rfl | rfl | rfl
      · rw [d4, q0, l4 1 (by omega)]
      · rw [d5, q1, l4 2 (by omega)]
      · rw [d6, q2, l4 3 (by omega)]
      · rw [d7, q3, l4 0 (by omega)]
    rw [d1, bd_s]
    have hS1 : St σ1 (z + 1) (τ.1 (z + 174)) C T := hS.keep fun x h1 h2 => s1 x (by omega)
    have hN1 : NmA σ1 z := ⟨hN.1.keep fun x h1 h2 => s1 x (by omega), hN.2.1.keep fun x h1 h2 => s1 x (by omega), fun i hi => (hN.2.2 i hi).keep fun x h1 h2 => s1 x (by omega)⟩
    obtain ⟨σ', g1, g2, g3, g4, g5, g6, g7⟩ := main hs' σ1 3 hp' hC1 (by omega) (by rw [d2, wi_ss]; rfl) hS1 hN1 (by
      rw [k1, if_pos (show (3 = 3 ∧ nI 4 = nI 4) from ⟨rfl, rfl⟩)]
      intro j hj
      have hj2 : hs' j = hs (j + 1) := by
        rcases c4 j (by omega) with rfl | rfl | rfl | rfl
        · exact q0
        · exact q1
        · exact q2
        · omega
      rw [hj2]
      refine ((hH (j + 1) (by omega)).keep fun x h1 h2 => s1 x (by omega)).congr fun x hx => ?_
      have hlt : 246 * j + x < 738 := by omega
      have hix : 246 * j + x + 246 = 246 * (j + 1) + x := by omega
      show (if 246 * j + x < 738 then τ.1 (z + 175) (246 * j + x + 246) else τ.1 (z + 175) (246 * j + x)) = τ.1 (z + 175) (246 * (j + 1) + x)
      rw [if_pos hlt, hix])
    rw [k1, if_pos (show (3 = 3 ∧ nI 4 = nI 4) from ⟨rfl, rfl⟩)] at g7
    have hm := m_record4 hM k2
    have z1 : z + 173 + 1 = z + 174 := by omega
    have z2 : z + 173 + 2 = z + 175 := by omega
    rw [z1, z2] at hm
    refine ⟨hs', σ', _, 4, g1, hm, ⟨hp', g2, hM, ?_, g6, ?_, ⟨by omega, g3, by rw [wi_ss], ?_⟩, ?_, ?_⟩, fun x hx => ⟨by rw [g4 x hx, s1 x (by omega)], by rw [g5, d3 x (by omega)]⟩, rfl, fun x h1 h2 => by rw [wi_o _ _ _ h1, wb_o _ _ h2, wi_o _ _ _ h1, wb_o _ _ h2], fun w hw => by rw [wi_so _ _ hw, wb_o _ _ (by omega), wi_so _ _ hw, wb_o _ _ (by omega)]⟩
    · rw [wi_o _ _ _ (by omega), wb_o _ _ (by omega), wi_o _ _ _ (by omega), wb_o _ _ (by omega)]
      exact hS1.keep fun x h1 h2 => g4 x (by omega)
    · rw [wi_so _ _ (by omega), wb_o _ _ (by omega), wi_so _ _ (by omega), wb_o _ _ (by omega), g4 z (by omega), s1 z (by omega)]
      exact hr
    · rw [wi_o _ _ _ (by omega), wb_s]
      exact g7
    · unfold Snap at hSn ⊢
      rw [wi_so _ _ (by omega), wb_o _ _ (by omega), wi_so _ _ (by omega), wb_o _ _ (by omega), g4 z (by omega), s1 z (by omega), wi_o _ _ _ (by omega), wb_o _ _ (by omega), wi_o _ _ _ (by omega), wb_o _ _ (by omega)]
      rcases hSn with q | ⟨q1, q2, q3⟩
      · exact Or.inl q
      · exact Or.inr ⟨q1, q2, q3.keep fun x h1 h2 => by rw [g4 x (by omega), s1 x (by omega)]⟩
    · unfold Txt at hT ⊢
      rw [wi_so _ _ (by omega), wb_o _ _ (by omega), wi_so _ _ (by omega), wb_o _ _ (by omega), wi_o _ _ _ (by omega), wb_o _ _ (by omega), wi_o _ _ _ (by omega), wb_o _ _ (by omega), g4 _ (by omega), g4 _ (by omega), s1 _ (by omega), s1 _ (by omega)]
      exact hT
