/-! setNeed, addMotor, undo, keep, restore -/
-- as lt_d, bd_s, ck_t, but not by rfl: so that the kernel never unfolds a loop of 1100
theorem lt_n {α β : Type} (e : α) (k : α → β) : lt_ e k = k e := of_eq_true (eq_true rfl)
theorem bd_n {α β : Type} (a : α) (s : bz_W) (k : α → bz_W → Option β) : bd_ (some (a, s)) k = k a s := of_eq_true (eq_true rfl)
theorem ck_n {α : Type} (k : Option α) : ck_ true k = k := of_eq_true (eq_true rfl)
theorem Rel.rd2 {z C T : Nat} {σ τ : bz_W} (h : Rel z C T σ τ) : ∃ cnt ck t sz nx, 0 < z ∧ (σ.2 z 0 = z + 1 ∧ σ.2 z 1 = z + 28 ∧ σ.2 z 2 = z + 138 ∧ σ.2 z 4 = z + 165 ∧ σ.2 z 5 = z + 167 ∧ σ.2 z 6 = z + 172) ∧ τ.2 (z + 173) 0 = z + 174 ∧ LyS σ.2 (z + 1) ∧ RS σ (z + 1) (τ.1 (z + 174)) cnt ck t sz nx ∧ IS (τ.1 (z + 174)) cnt ck t sz nx ∧ σ.1 z 7 = τ.1 (z + 173) 5 ∧ ck ≤ C ∧ t ≤ T := by
  obtain ⟨hs, n, -, ⟨hz, ⟨a0, a1, a2, a3, a4, a5, -, -⟩, -, l1, -⟩, hM, ⟨cnt, ck, t, sz, nx, hS, hI, hck, htt⟩, -, hr, -⟩ := h
  exact ⟨cnt, ck, t, sz, nx, hz, ⟨a0, a1, a2, a3, a4, a5⟩, hM.1, l1, hS, hI, hr, hck, htt⟩
theorem Rel.go {z C T cnt ck t sz nx : Nat} {σ τ : bz_W} (h : Rel z C T σ τ) (hS : RS σ (z + 1) (τ.1 (z + 174)) cnt ck t sz nx) (hc : cnt ≤ 8) : ∃ σ' τ', f_X1_record σ (z + 28) (z + 1) = some (0, σ') ∧ f_X7_record τ (z + 173) = some (0, τ') ∧ Rel z C T σ' τ' ∧ RS σ' (z + 1) (τ'.1 (z + 174)) cnt ck t sz nx ∧ τ'.1 (z + 174) = τ.1 (z + 174) ∧ (σ'.2 z 0 = z + 1 ∧ σ'.2 z 1 = z + 28 ∧ σ'.2 z 2 = z + 138 ∧ σ'.2 z 4 = z + 165 ∧ σ'.2 z 5 = z + 167 ∧ σ'.2 z 6 = z + 172) ∧ τ'.2 (z + 173) 0 = z + 174 ∧ LyS σ'.2 (z + 1) ∧ σ'.1 z 7 = τ'.1 (z + 173) 5 ∧ (∀ x, (x < z + 28 ∨ z + 138 ≤ x) → σ'.1 x = σ.1 x) ∧ (∀ x, x ≠ z + 173 → x ≠ z + 175 → τ'.1 x = τ.1 x) ∧ ∀ w, w ≠ 2 → τ'.1 (z + 173) w = τ.1 (z + 173) w := by
  obtain ⟨σ', τ', g1, g2, g3, g4, g5, g6, g7⟩ := Rel.rec h
  obtain ⟨-, -, -, -, -, -, b1, b2, b3, -, -, b6, -⟩ := Rel.rd2 g3
  have e : τ'.1 (z + 174) = τ.1 (z + 174) := g6 _ (by omega) (by omega)
  refine ⟨σ', τ', g1, g2, g3, ?_, e, b1, b2, b3, b6, fun x hx => (g4 x hx).1, g6, g7⟩
  rw [e]
  exact hS.keep hc fun x h1 h2 => (g4 x (by omega)).1
theorem sm_setNeed {z k : Nat} {σ τ : bz_W} (h : bz_Rel z k σ τ) (hk : k < 512) (x1 x2 : Int32) : ∃ v σ1 τ1, f_X6_setNeed σ z x1 x2 = some (v, σ1) ∧ f_X7_setNeed τ (z + 173) x1 x2 = some (v, τ1) ∧ bz_Rel z (k + 1) σ1 τ1 := by
  obtain ⟨cnt, ck, t, sz, nx, hz, ⟨a0, a1, -⟩, hN, hL, hS, hI, hr, hck, htt⟩ := Rel.rd2 h
  have hc := hI.1
  unfold f_X6_setNeed f_X7_setNeed
  rw [a0]
  have ew : τ = bz_wb τ (z + 174) (τ.1 (z + 174)) := (wb_id τ (z + 174)).symm
  rcases pk_ix x1 (n := cnt) (by omega) with h1 | h1 | ⟨i, hi, rfl⟩
  · rw [c_findN hc hS.1.1 (Or.inl h1), ew, m_noN hN hc hS.1.2 (Or.inl h1), ← ew]
    exact ⟨_, _, _, rfl, rfl, sm_idle h⟩
  · rw [c_findN hc hS.1.1 (Or.inr h1), ew, m_noN hN hc hS.1.2 (Or.inr h1), ← ew]
    exact ⟨_, _, _, rfl, rfl, sm_idle h⟩
  · have hi8 : i < 8 := by omega
    rw [c_findY hL hc hS.1.1 hi, bd_s, if_neg (q_ne z i)]
    rcases io_cases x2 0 9 with ⟨c1, c2, c3, c4⟩ | ⟨c1, c2⟩
    · obtain ⟨w, -, hw, rfl⟩ := rng 0 9 rfl rfl (by omega) (by omega) c3 c4
      rw [ew, m_noY hN hc hS.1.2 hi, bd_s, if_pos rfl, c1, c2, bd_s, bd_s, if_pos rfl, if_neg (by decide), m_of4 hN hi8, bd_s, lt_d, ← ew, ← (hS.2.2.2.2.2.1 i hi).2.2.2.2.1]
      by_cases e : nI w = τ.1 (z + 174) (8 + 20 * i + 4)
      · rw [if_pos e, if_pos e.symm]
        exact ⟨_, _, _, rfl, rfl, sm_idle h⟩
      · rw [if_neg e, if_neg (fun q => e q.symm), a1, a0]
        obtain ⟨σ', τ', g1, g2, g3, hS', er, -, hN', -, hr', -⟩ := Rel.go h hS hc
        have ew' : τ' = bz_wb τ' (z + 174) (τ'.1 (z + 174)) := (wb_id τ' (z + 174)).symm
        have hI' : IS (τ'.1 (z + 174)) cnt ck t sz nx := by rw [er]; exact hI
        rw [g1, g2, bd_s, bd_s, ew', m_put4 hN' hi8, bd_s]
        refine ⟨_, _, _, rfl, rfl, ?_⟩
        refine sm_idle (Rel.now g3 ((Fr.refl z σ').wi _ (by omega) (Or.inl (by omega))) (FrM.wb z τ' _) ⟨cnt, ck, t, sz, nx, ?_, ?_, hck, htt⟩ ?_ (Nat.le_refl _) (Nat.le_refl _))
        · rw [wb_s]
          exact hS'.mot1 hc hi8 (fun x h1 h2 => wi_o _ _ _ h1) (fun y hy => up_o _ _ (by omega)) ((hS'.2.2.2.2.2.1 i hi).set _ (by omega))
        · rw [wb_s]
          refine hI'.mot1 hi8 (fun y hy => up_o _ _ (by omega)) ?_
          obtain ⟨ra, rm, fa, li, ne, md, he, lo, sc, si, la, e0, e1, e2, e3, e4, e5, e6, e7, e8, e9, e10, bb⟩ := hI'.2.2.2.2.2.2.1 i hi
          refine ⟨ra, rm, fa, li, w, md, he, lo, sc, si, la, ?_, ?_, ?_, ?_, ?_, ?_, ?_, ?_, ?_, ?_, ?_, by omega⟩
          all_goals first | (rw [up_o _ _ (by omega)]; assumption) | rw [up_s]
        · rw [wi_o _ _ _ (by omega), wb_o _ _ (by omega)]
          exact hr'
    · rw [ew, m_noY hN hc hS.1.2 hi, bd_s, if_pos rfl, c1, c2, ← ew]
      exact ⟨_, _, _, rfl, rfl, sm_idle h⟩
theorem blit_in {h f : Nat → Int32} {b n y : Nat} (h1 : b ≤ y) (h2 : y < b + n) : blit h f b n y = f (y - b) := by
  have : b ≤ y ∧ y < b + n := ⟨h1, h2⟩
  simp only [blit, if_pos this]
theorem blit_out {h f : Nat → Int32} {b n y : Nat} (h1 : y < b ∨ b + n ≤ y) : blit h f b n y = h y := by
  have : ¬ (b ≤ y ∧ y < b + n) := by omega
  simp only [blit, if_neg this]
theorem c_zeroL {σ : bz_W} {q : Nat} (hq : σ.2 q 1 = q + 1) {k : bz_W → Option (Int32 × bz_W)} : ∀ fuel j, j ≤ 7 → 7 - j < fuel → f_X2_begin_L75 q k fuel (nI j) (bz_wb σ (q + 1) (blit (σ.1 (q + 1)) (fun _ => 0) 0 j)) = k (bz_wb σ (q + 1) (blit (σ.1 (q + 1)) (fun _ => 0) 0 7)) := by
  intro fuel
  induction fuel with
  | zero => intro j hj h; omega
  | succ f ih =>
    intro j hj h
    rw [f_X2_begin_L75]
    by_cases hjn : j = 7
    · subst hjn
      rw [if_pos (show (7 : Int32) ≤ nI 7 from nI_le (a := 7) (Nat.le_refl _) (by omega))]
    · have hb := blit_s (σ.1 (q + 1)) (fun _ => 0) 0 j
      rw [Nat.zero_add] at hb
      rw [if_neg (show ¬ (7 : Int32) ≤ nI j from nI_ge (b := 7) (by omega) (by omega)), in_nI (by omega) (by omega), ck_t, lt_d, lt_d, wb_2, hq, nI_clamp (by omega), wi_wb, hb, nI_1]
      exact ih (j + 1) (by omega) (by omega)
theorem c_begin {σ : bz_W} {q m : Nat} {x1 x2 x3 x4 : Int32} (hq : σ.2 q 1 = q + 1) (hm : x2 = nI m) (h0 : m ≠ 0) (hm2 : m < 1000) : ∃ σ', f_X2_begin σ q x1 x2 x3 x4 = some (0, σ') ∧ σ'.2 = σ.2 ∧ (∀ b, b ≠ q → b ≠ q + 1 → σ'.1 b = σ.1 b) ∧ (σ'.1 q 2 = x1 ∧ σ'.1 q 3 = x2 ∧ σ'.1 q 4 = x3 ∧ σ'.1 q 5 = x4 ∧ σ'.1 q 6 = hsum (x1 * x3) x2 m ∧ σ'.1 q 7 = 5) ∧ (∀ w, 8 ≤ w → w ≤ 14 → σ'.1 q w = 0) ∧ (∀ k, k < 7 → σ'.1 (q + 1) k = 0) ∧ σ'.1 q 0 = σ.1 q 0 := by
  subst hm
  have n1 : q ≠ q + 1 := by omega
  unfold f_X2_begin
  simp only [lt_n, c_hsum hm2 h0, bd_n]
  have key := fun (τ : bz_W) (hτ : τ.2 q 1 = q + 1) => c_zeroL hτ (k := (fun (σ21 : bz_W) => some ((0 : Int32), σ21))) 1100 0 (by omega) (by omega)
  rw [nI_0] at key
  have key2 : ∀ τ : bz_W, τ.2 q 1 = q + 1 → f_X2_begin_L75 q (fun (σ21 : bz_W) => some ((0 : Int32), σ21)) 1100 0 τ = some (0, bz_wb τ (q + 1) (blit (τ.1 (q + 1)) (fun _ => 0) 0 7)) := fun τ hτ => by
    have := key τ hτ
    rw [blit_0, wb_id] at this
    exact this
  rw [key2]
  · refine ⟨_, rfl, rfl, fun b h1 h2 => ?_, ?_, fun w h1 h2 => ?_, fun k hk => ?_, ?_⟩
    · rw [wb_o _ _ h2]
      simp only [wi_o _ _ _ h1]
    · rw [wb_o _ _ n1]
      simp [wi_s, upd]
    · rw [wb_o _ _ n1]
      rcases (show w = 8 ∨ w = 9 ∨ w = 10 ∨ w = 11 ∨ w = 12 ∨ w = 13 ∨ w = 14 by omega) with rfl | rfl | rfl | rfl | rfl | rfl | rfl <;> simp [wi_s, upd]
    · rw [wb_s, blit_in (by omega) (by omega)]
    · rw [wb_o _ _ n1]
      simp [wi_s, upd]
  · exact hq
theorem m_zeroL {τ : bz_W} {M N i : Nat} {r : Nat → Int32} (hN : τ.2 M 0 = N) (hi : i < 8) {x1 x2 x3 x4 : Int32} {k : bz_W → Option (Int32 × bz_W)} : ∀ fuel j, j ≤ 20 → 20 - j < fuel → f_X7_addMotor_L87 M x1 x2 x3 x4 (nI i) k fuel (nI j) (bz_wb τ N (blit r (fun _ => 0) (8 + 20 * i) j)) = k (bz_wb τ N (blit r (fun _ => 0) (8 + 20 * i) 20)) := by
  intro fuel
  induction fuel with
  | zero => intro j hj h; omega
  | succ f ih =>
    intro j hj h
    rw [f_X7_addMotor_L87]
    by_cases hjn : j = 20
    · subst hjn
      rw [if_pos (show (20 : Int32) ≤ nI 20 from nI_le (a := 20) (Nat.le_refl _) (by omega))]
    · have hb := blit_s r (fun _ => 0) (8 + 20 * i) j
      rw [if_neg (show ¬ (20 : Int32) ≤ nI j from nI_ge (b := 20) (by omega) (by omega)), m_put hN hi j (by omega) rfl, bd_s, lt_d, hb, nI_1]
      exact ih (j + 1) (by omega) (by omega)
theorem RS.addm {σ σ' : bz_W} {a cnt ck t sz nx : Nat} {r r' : Nat → Int32} (h : RS σ a r cnt ck t sz nx) (hc : cnt < 8) (e1 : ∀ x, x ≠ a → x ≠ a + 2 + 2 * cnt → x ≠ a + 2 + 2 * cnt + 1 → σ'.1 x = σ.1 x) (ea : ∀ w, w ≠ 3 → σ'.1 a w = σ.1 a w) (e3 : σ'.1 a 3 = nI (cnt + 1)) (z0 : r' 0 = nI (cnt + 1)) (e2 : ∀ y, y ≠ 0 → (y < 8 + 20 * cnt ∨ 8 + 20 * cnt + 20 ≤ y) → r' y = r y) (h' : RM σ' (a + 2 + 2 * cnt) r' cnt) : RS σ' a r' (cnt + 1) ck t sz nx := by
  obtain ⟨-, ⟨s4, r1⟩, ⟨r2, r3, r5⟩, ⟨s23, r6⟩, ⟨s18, s18', r4⟩, hRM, hit, hev⟩ := h
  refine ⟨⟨e3, z0⟩, ⟨by rw [ea _ (by omega), s4], by rw [e2 _ (by omega) (by omega), r1]⟩, ⟨by rw [ea _ (by omega), e2 _ (by omega) (by omega), r2], by rw [ea _ (by omega), e2 _ (by omega) (by omega), r3], by rw [ea _ (by omega), e2 _ (by omega) (by omega), r5]⟩, ⟨by rw [e1 _ (by omega) (by omega) (by omega), s23], by rw [e2 _ (by omega) (by omega), r6]⟩, ⟨by rw [e1 _ (by omega) (by omega) (by omega), s18], by rw [e1 _ (by omega) (by omega) (by omega), s18'], by rw [e2 _ (by omega) (by omega), r4]⟩, fun i hi => ?_, fun j hj => ?_, fun j hj => ?_⟩
  · by_cases e : i = cnt
    · subst e; exact h'
    · exact (hRM i (by omega)).keep (e1 _ (by omega) (by omega) (by omega)) (e1 _ (by omega) (by omega) (by omega)) fun w hw => e2 _ (by omega) (by omega)
  · rw [e2 _ (by omega) (by omega), e2 _ (by omega) (by omega), e2 _ (by omega) (by omega), e2 _ (by omega) (by omega), e1 _ (by omega) (by omega) (by omega), e1 _ (by omega) (by omega) (by omega), e1 _ (by omega) (by omega) (by omega), e1 _ (by omega) (by omega) (by omega)]
    exact hit j hj
  · rw [e2 _ (by omega) (by omega), e2 _ (by omega) (by omega), e2 _ (by omega) (by omega), e1 _ (by omega) (by omega) (by omega), e1 _ (by omega) (by omega) (by omega), e1 _ (by omega) (by omega) (by omega)]
    exact hev j hj
theorem sm_addMotor {z k : Nat} {σ τ : bz_W} (h : bz_Rel z k σ τ) (hk : k < 512) (x1 x2 x3 x4 : Int32) : ∃ v σ1 τ1, f_X6_addMotor σ z x1 x2 x3 x4 = some (v, σ1) ∧ f_X7_addMotor τ (z + 173) x1 x2 x3 x4 = some (v, τ1) ∧ bz_Rel z (k + 1) σ1 τ1 := by
  obtain ⟨cnt, ck, t, sz, nx, hz, ⟨a0, a1, -⟩, hN, hL, hS, hI, hr, hck, htt⟩ := Rel.rd2 h
  have hc := hI.1
  unfold f_X6_addMotor f_X7_addMotor
  rcases io_cases x1 1 100 with ⟨c1, c2, c3, c4⟩ | ⟨c1, c2⟩
  · obtain ⟨ra, ra1, ra2, rfl⟩ := rng 1 100 rfl rfl (by omega) (by omega) c3 c4
    rw [c1, c2, bd_s, bd_s, if_pos rfl, if_neg (by decide)]
    clear c1 c2 c3 c4
    rcases io_cases x2 2 30 with ⟨c1, c2, c3, c4⟩ | ⟨c1, c2⟩
    · obtain ⟨rm, rm1, rm2, rfl⟩ := rng 2 30 rfl rfl (by omega) (by omega) c3 c4
      rw [c1, c2, bd_s, bd_s, if_pos rfl, if_neg (by decide)]
      clear c1 c2 c3 c4
      rcases io_cases x3 2 6 with ⟨c1, c2, c3, c4⟩ | ⟨c1, c2⟩
      · obtain ⟨fa, fa1, fa2, rfl⟩ := rng 2 6 rfl rfl (by omega) (by omega) c3 c4
        rw [c1, c2, bd_s, bd_s, if_pos rfl, if_neg (by decide)]
        clear c1 c2 c3 c4
        rcases io_cases x4 100 60000 with ⟨c1, c2, c3, c4⟩ | ⟨c1, c2⟩
        · obtain ⟨li, li1, li2, rfl⟩ := rng 100 60000 rfl rfl (by omega) (by omega) c3 c4
          rw [c1, c2, bd_s, bd_s, if_pos rfl, if_neg (show ¬ (1 : Int32) = 0 by decide), a0, a1, hN, hS.1.1, hS.1.2]
          clear c1 c2 c3 c4
          by_cases h8 : cnt < 8
          · rw [if_pos (show nI cnt < (8 : Int32) from nI_lt (b := 8) h8 (by omega)), if_neg (show ¬ nI cnt = (8 : Int32) from fun e => by have := (nI_eq (b := 8) (by omega) (by omega)).mp e; omega)]
            obtain ⟨σ', τ', g1, g2, g3, hS', er, ⟨b0, -⟩, hN', hL', hr', -⟩ := Rel.go h hS hc
            have hI' : IS (τ'.1 (z + 174)) cnt ck t sz nx := by rw [er]; exact hI
            have ew' : bz_wi τ' (z + 174) 0 (nI (cnt + 1)) = bz_wb τ' (z + 174) (upd (τ'.1 (z + 174)) 0 (nI (cnt + 1))) := by
              have := wi_wb τ' (z + 174) 0 (τ'.1 (z + 174)) (nI (cnt + 1))
              rw [wb_id] at this
              exact this
            rw [g1, g2, bd_s, bd_s, lt_d, lt_d, lt_d, b0, hN', hS'.1.1, hS'.1.2, in_nI h8 (by omega), ck_t, nI_clamp (by omega), hL'.1, (hL'.2.2.2.1 cnt h8).1, nI_1, ew']
            obtain ⟨σ2, f1, f2, f3, f4, f5, f6, f7⟩ := c_begin (σ := σ') (x1 := nI ra) (x3 := nI fa) (x4 := nI li) (m := rm) (by rw [(hL'.2.2.2.1 cnt h8).2]; omega) rfl (by omega) (by omega)
            rw [f1, bd_s, f2, b0, lt_d]
            have hz := m_zeroL (τ := τ') (r := upd (τ'.1 (z + 174)) 0 (nI (cnt + 1))) hN' h8 (x1 := nI ra) (x2 := nI rm) (x3 := nI fa) (x4 := nI li) (k := (fun (σ25 : bz_W) => bd_ (f_X7_put σ25 (z + 173) (nI cnt) 0 (nI ra)) fun _ σ27 => bd_ (f_X7_put σ27 (z + 173) (nI cnt) 1 (nI rm)) fun _ σ29 => bd_ (f_X7_put σ29 (z + 173) (nI cnt) 2 (nI fa)) fun _ σ31 => bd_ (f_X7_put σ31 (z + 173) (nI cnt) 3 (nI li)) fun _ σ33 => bd_ (f_X7_put σ33 (z + 173) (nI cnt) 4 5) fun _ σ35 => some (nI cnt, σ35))) 1100 0 (by omega) (by omega)
            rw [blit_0, nI_0] at hz
            rw [hz]
            clear hz
            simp only [m_put0 hN' h8, m_put1 hN' h8, m_put2 hN' h8, m_put3 hN' h8, m_put4 hN' h8, bd_s]
            refine ⟨_, _, _, rfl, rfl, ?_⟩
            have e2 : ∀ y, y ≠ 0 → (y < 8 + 20 * cnt ∨ 8 + 20 * cnt + 20 ≤ y) → (upd (upd (upd (upd (upd (blit (upd (τ'.1 (z + 174)) 0 (nI (cnt + 1))) (fun _ => 0) (8 + 20 * cnt) 20) (8 + 20 * cnt + 0) (nI ra)) (8 + 20 * cnt + 1) (nI rm)) (8 + 20 * cnt + 2) (nI fa)) (8 + 20 * cnt + 3) (nI li)) (8 + 20 * cnt + 4) 5) y = τ'.1 (z + 174) y := fun y h0 hy => by
              rw [up_o _ _ (by omega), up_o _ _ (by omega), up_o _ _ (by omega), up_o _ _ (by omega), up_o _ _ (by omega), blit_out (by omega), up_o _ _ h0]
            have ez : ∀ w, 5 ≤ w → w < 20 → (upd (upd (upd (upd (upd (blit (upd (τ'.1 (z + 174)) 0 (nI (cnt + 1))) (fun _ => 0) (8 + 20 * cnt) 20) (8 + 20 * cnt + 0) (nI ra)) (8 + 20 * cnt + 1) (nI rm)) (8 + 20 * cnt + 2) (nI fa)) (8 + 20 * cnt + 3) (nI li)) (8 + 20 * cnt + 4) 5) (8 + 20 * cnt + w) = 0 := fun w h1 h2 => by
              rw [up_o _ _ (by omega), up_o _ _ (by omega), up_o _ _ (by omega), up_o _ _ (by omega), up_o _ _ (by omega), blit_in (by omega) (by omega)]
            have e00 : (upd (upd (upd (upd (upd (blit (upd (τ'.1 (z + 174)) 0 (nI (cnt + 1))) (fun _ => 0) (8 + 20 * cnt) 20) (8 + 20 * cnt + 0) (nI ra)) (8 + 20 * cnt + 1) (nI rm)) (8 + 20 * cnt + 2) (nI fa)) (8 + 20 * cnt + 3) (nI li)) (8 + 20 * cnt + 4) 5) 0 = nI (cnt + 1) := by
              rw [up_o _ _ (by omega), up_o _ _ (by omega), up_o _ _ (by omega), up_o _ _ (by omega), up_o _ _ (by omega), blit_out (by omega), up_s]
            have p0 : (upd (upd (upd (upd (upd (blit (upd (τ'.1 (z + 174)) 0 (nI (cnt + 1))) (fun _ => 0) (8 + 20 * cnt) 20) (8 + 20 * cnt + 0) (nI ra)) (8 + 20 * cnt + 1) (nI rm)) (8 + 20 * cnt + 2) (nI fa)) (8 + 20 * cnt + 3) (nI li)) (8 + 20 * cnt + 4) 5) (8 + 20 * cnt) = nI ra := by
              rw [up_o _ _ (by omega), up_o _ _ (by omega), up_o _ _ (by omega), up_o _ _ (by omega)]
              exact up_s _ _ _
            have p1 : (upd (upd (upd (upd (upd (blit (upd (τ'.1 (z + 174)) 0 (nI (cnt + 1))) (fun _ => 0) (8 + 20 * cnt) 20) (8 + 20 * cnt + 0) (nI ra)) (8 + 20 * cnt + 1) (nI rm)) (8 + 20 * cnt + 2) (nI fa)) (8 + 20 * cnt + 3) (nI li)) (8 + 20 * cnt + 4) 5) (8 + 20 * cnt + 1) = nI rm := by
              rw [up_o _ _ (by omega), up_o _ _ (by omega), up_o _ _ (by omega), up_s]
            have p2 : (upd (upd (upd (upd (upd (blit (upd (τ'.1 (z + 174)) 0 (nI (cnt + 1))) (fun _ => 0) (8 + 20 * cnt) 20) (8 + 20 * cnt + 0) (nI ra)) (8 + 20 * cnt + 1) (nI rm)) (8 + 20 * cnt + 2) (nI fa)) (8 + 20 * cnt + 3) (nI li)) (8 + 20 * cnt + 4) 5) (8 + 20 * cnt + 2) = nI fa := by
              rw [up_o _ _ (by omega), up_o _ _ (by omega), up_s]
            have p3 : (upd (upd (upd (upd (upd (blit (upd (τ'.1 (z + 174)) 0 (nI (cnt + 1))) (fun _ => 0) (8 + 20 * cnt) 20) (8 + 20 * cnt + 0) (nI ra)) (8 + 20 * cnt + 1) (nI rm)) (8 + 20 * cnt + 2) (nI fa)) (8 + 20 * cnt + 3) (nI li)) (8 + 20 * cnt + 4) 5) (8 + 20 * cnt + 3) = nI li := by
              rw [up_o _ _ (by omega), up_s]
            have p4 : (upd (upd (upd (upd (upd (blit (upd (τ'.1 (z + 174)) 0 (nI (cnt + 1))) (fun _ => 0) (8 + 20 * cnt) 20) (8 + 20 * cnt + 0) (nI ra)) (8 + 20 * cnt + 1) (nI rm)) (8 + 20 * cnt + 2) (nI fa)) (8 + 20 * cnt + 3) (nI li)) (8 + 20 * cnt + 4) 5) (8 + 20 * cnt + 4) = 5 := by
              rw [up_s]
            generalize hr2 : (upd (upd (upd (upd (upd (blit (upd (τ'.1 (z + 174)) 0 (nI (cnt + 1))) (fun _ => 0) (8 + 20 * cnt) 20) (8 + 20 * cnt + 0) (nI ra)) (8 + 20 * cnt + 1) (nI rm)) (8 + 20 * cnt + 2) (nI fa)) (8 + 20 * cnt + 3) (nI li)) (8 + 20 * cnt + 4) 5) = r2 at e2 ez e00 p0 p1 p2 p3 p4
            have nq : z + 1 ≠ z + 1 + 2 + 2 * cnt := by omega
            have nq1 : z + 1 ≠ z + 1 + 2 + 2 * cnt + 1 := by omega
            refine sm_idle (Rel.now g3 (Fr.trans (σ' := σ2) ⟨f2, fun x q1 q2 => f3 x (by omega) (by omega), fun w hw => by rw [f3 z (by omega) (by omega)], fun i hi => ?_⟩ ((Fr.refl z σ2).wi _ (by omega) (Or.inl (by omega)))) (FrM.wb z τ' _) ⟨cnt + 1, ck, t, sz, nx, ?_, ?_, hck, htt⟩ ?_ (Nat.le_refl _) (Nat.le_refl _))
            · by_cases e : i = cnt
              · subst e; exact f7
              · rw [f3 _ (by omega) (by omega)]
            · rw [wb_s]
              refine hS'.addm h8 (fun x q1 q2 q3 => by rw [wi_o _ _ _ q1, f3 x q2 q3]) (fun w hw => by rw [wi_so _ _ hw, f3 _ nq nq1]) (by rw [wi_ss]) e00 e2 ?_
              have fx : ∀ w, 5 ≤ w → w ≤ 11 → r2 (8 + 20 * cnt + w) = 0 := fun w h1 h2 => ez w h1 (by omega)
              unfold RM
              rw [wi_o _ _ _ (by omega), wi_o _ _ _ (by omega), p0, p1, p2, p3, p4, ez 5 (by omega) (by omega), ez 6 (by omega) (by omega), ez 7 (by omega) (by omega), ez 8 (by omega) (by omega), ez 9 (by omega) (by omega), ez 10 (by omega) (by omega), ez 11 (by omega) (by omega), f4.1, f4.2.1, f4.2.2.1, f4.2.2.2.1, f4.2.2.2.2.1, f4.2.2.2.2.2, f5 8 (by omega) (by omega), f5 9 (by omega) (by omega), f5 10 (by omega) (by omega), f5 11 (by omega) (by omega), f5 12 (by omega) (by omega), f5 13 (by omega) (by omega), f5 14 (by omega) (by omega)]
              refine ⟨rfl, rfl, rfl, rfl, rfl, rfl, rfl, rfl, rfl, rfl, rfl, rfl, fun k hk => ?_, ?_⟩
              · rw [f6 k hk, Nat.add_assoc (8 + 20 * cnt) 12 k, ez _ (by omega) (by omega)]
              · unfold needR peakR
                rw [p0, p1, p2, vN_nI (by omega)]
            · rw [wb_s]
              obtain ⟨-, i2, i3, i4, i5, i6, i7, i8⟩ := hI'
              refine ⟨by omega, i2, i3, i4, i5, by rw [e2 3 (by omega) (by omega)]; exact i6, fun j hj => ?_, fun j hj => (i8 j hj).congr fun w hw => e2 _ (by omega) (by omega)⟩
              by_cases e : j = cnt
              · subst e
                exact ⟨ra, rm, fa, li, 5, 0, 0, 0, 0, 0, 0, p0, p1, p2, p3, p4, ez 5 (by omega) (by omega), ez 6 (by omega) (by omega), ez 7 (by omega) (by omega), ez 8 (by omega) (by omega), ez 9 (by omega) (by omega), ez 10 (by omega) (by omega), by omega⟩
              · exact (i7 j (by omega)).congr fun w hw => e2 _ (by omega) (by omega)
            · rw [wi_o _ _ _ (by omega), f3 z (by omega) (by omega), wb_o _ _ (by omega)]
              exact hr'
          · have e8 : cnt = 8 := by omega
            subst e8
            rw [if_neg (by decide), if_pos (show nI 8 = (8 : Int32) from rfl)]
            unfold f_X6_refuse f_X7_refuse
            exact ⟨_, _, _, rfl, rfl, sm_idle (Rel.refuse h 5)⟩
        · rw [c1, c2]; exact ⟨_, _, _, rfl, rfl, sm_idle h⟩
      · rw [c1, c2]; exact ⟨_, _, _, rfl, rfl, sm_idle h⟩
    · rw [c1, c2]; exact ⟨_, _, _, rfl, rfl, sm_idle h⟩
  · rw [c1, c2]; exact ⟨_, _, _, rfl, rfl, sm_idle h⟩
