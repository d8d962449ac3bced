/-! the history, the snapshot: copies of the model's row, the class's ring of blocks -/
def LyM (ρ : Nat → Nat → Nat) (M : Nat) : Prop := ρ M 0 = M + 1 ∧ ρ M 1 = M + 2 ∧ ρ M 3 = M + 3 ∧ ρ M 7 = M + 4 ∧ ρ M 10 = M + 5
def blit (h now : Nat → Int32) (b n : Nat) : Nat → Int32 := fun y => if b ≤ y ∧ y < b + n then now (y - b) else h y
theorem blit_0 (h now : Nat → Int32) (b : Nat) : blit h now b 0 = h := by
  funext y
  have : ¬ (b ≤ y ∧ y < b + 0) := by omega
  simp [blit]
  omega
theorem blit_s (h now : Nat → Int32) (b j : Nat) : upd (blit h now b j) (b + j) (now j) = blit h now b (j + 1) := by
  funext y
  by_cases hy : y = b + j
  · subst hy
    have h1 : b ≤ b + j ∧ b + j < b + (j + 1) := by omega
    rw [up_s]
    simp only [blit, if_pos h1, Nat.add_sub_cancel_left]
  · rw [up_o _ _ hy]
    by_cases h1 : b ≤ y ∧ y < b + j
    · have h2 : b ≤ y ∧ y < b + (j + 1) := by omega
      simp only [blit, if_pos h1, if_pos h2]
    · have h2 : ¬ (b ≤ y ∧ y < b + (j + 1)) := by omega
      simp only [blit, if_neg h1, if_neg h2]
def shl (h : Nat → Int32) (j : Nat) : Nat → Int32 := fun y => if y < j then h (y + 246) else h y
theorem shl_0 (h : Nat → Int32) : shl h 0 = h := by
  funext y
  simp [shl]
theorem shl_s (h : Nat → Int32) (j : Nat) : upd (shl h j) j (h (j + 246)) = shl h (j + 1) := by
  funext y
  by_cases hy : y = j
  · subst hy
    rw [up_s]
    simp [shl]
  · rw [up_o _ _ hy]
    by_cases h1 : y < j
    · have h2 : y < j + 1 := by omega
      simp only [shl, if_pos h1, if_pos h2]
    · have h2 : ¬ y < j + 1 := by omega
      simp only [shl, if_neg h1, if_neg h2]
theorem ix_h (n j : Nat) : (246 : Int32) * nI n + nI j = nI (246 * n + j) := by
  show nI 246 * nI n + nI j = _
  rw [pk_mul, nI_add]
section REC
variable {τ : bz_W} {M n : Nat}
theorem m_recL (hL : LyM τ.2 M) (hn : n < 4) (hk : τ.1 M 2 = nI n) {k : bz_W → Option (Int32 × bz_W)} : ∀ fuel j, j ≤ 246 → 246 - j < fuel → f_X7_record_L51 M k fuel (nI j) (bz_wb τ (M + 2) (blit (τ.1 (M + 2)) (τ.1 (M + 1)) (246 * n) j)) = k (bz_wb τ (M + 2) (blit (τ.1 (M + 2)) (τ.1 (M + 1)) (246 * n) 246)) := by
  intro fuel
  induction fuel with
  | zero => intro j hj h; omega
  | succ f ih =>
    intro j hj h
    rw [f_X7_record_L51]
    by_cases hjn : j = 246
    · subst hjn
      rw [if_pos (show (246 : Int32) ≤ nI 246 from nI_le (a := 246) (Nat.le_refl _) (by omega))]
    · rw [if_neg (show ¬ (246 : Int32) ≤ nI j from nI_ge (b := 246) (by omega) (by omega)), in_nI (by omega) (by omega), ck_t, wb_o _ _ (show M ≠ M + 2 by omega), hk, ix_h, in_nI (by omega) (by omega), ck_t, lt_d, lt_d, wb_2, hL.2.1, hL.1, wb_o _ _ (show M + 1 ≠ M + 2 by omega), nI_clamp (by omega), nI_clamp (by omega), wi_wb, blit_s, nI_1]
      exact ih (j + 1) (by omega) (by omega)
theorem m_shlL (hL : LyM τ.2 M) {k : bz_W → Option (Int32 × bz_W)} : ∀ fuel j, j ≤ 738 → 738 - j < fuel → f_X7_record_L10 M k fuel (nI j) (bz_wb τ (M + 2) (shl (τ.1 (M + 2)) j)) = k (bz_wb τ (M + 2) (shl (τ.1 (M + 2)) 738)) := by
  intro fuel
  induction fuel with
  | zero => intro j hj h; omega
  | succ f ih =>
    intro j hj h
    rw [f_X7_record_L10]
    have e1 : nI j + 246 = nI (j + 246) := nI_add j 246
    by_cases hjn : j = 738
    · subst hjn
      rw [if_pos (show (738 : Int32) ≤ nI 738 from nI_le (a := 738) (Nat.le_refl _) (by omega))]
    · rw [if_neg (show ¬ (738 : Int32) ≤ nI j from nI_ge (b := 738) (by omega) (by omega)), e1, in_nI (by omega) (by omega), ck_t, in_nI (by omega) (by omega), ck_t, lt_d, lt_d, wb_2, hL.2.1, nI_clamp (by omega), nI_clamp (by omega), wi_wb, wb_s]
      have e2 : shl (τ.1 (M + 2)) j (j + 246) = τ.1 (M + 2) (j + 246) := by
        have : ¬ j + 246 < j := by omega
        simp only [shl, if_neg this]
      rw [e2, shl_s, nI_1]
      exact ih (j + 1) (by omega) (by omega)
theorem m_record (hL : LyM τ.2 M) (hn : n < 4) (hk : τ.1 M 2 = nI n) : f_X7_record τ M = some (0, bz_wi (bz_wb τ (M + 2) (blit (τ.1 (M + 2)) (τ.1 (M + 1)) (246 * n) 246)) M 2 (nI (n + 1))) := by
  unfold f_X7_record
  rw [lt_d, hk]
  have e1 : ¬ nI n = 4 := fun e => by have := (nI_eq (a := n) (b := 4) (by omega) (by omega)).mp e; omega
  rw [if_neg e1]
  have h := m_recL hL hn hk (k := (fun (σ10 : bz_W) => lt_ (bz_wi σ10 M 2 ((σ10.1 M 2) + 1)) fun σ11 => some (0, σ11))) 1100 0 (Nat.zero_le _) (by omega)
  rw [blit_0, wb_id, nI_0] at h
  refine Eq.trans h ?_
  rw [lt_d, wb_o _ _ (show M ≠ M + 2 by omega), hk, nI_1]
theorem m_record4 (hL : LyM τ.2 M) (hk : τ.1 M 2 = nI 4) : f_X7_record τ M = some (0, bz_wi (bz_wb (bz_wi (bz_wb τ (M + 2) (shl (τ.1 (M + 2)) 738)) M 2 (nI 3)) (M + 2) (blit (shl (τ.1 (M + 2)) 738) (τ.1 (M + 1)) 738 246)) M 2 (nI 4)) := by
  unfold f_X7_record
  rw [lt_d, hk]
  rw [if_pos (show nI 4 = 4 from rfl)]
  have h := m_shlL hL (k := (fun (σ20 : bz_W) => lt_ (bz_wi σ20 M 2 ((σ20.1 M 2) - 1)) fun σ21 => f_X7_record_L51 M (fun (σ10 : bz_W) => lt_ (bz_wi σ10 M 2 ((σ10.1 M 2) + 1)) fun σ11 => some (0, σ11)) 1100 0 σ21)) 1100 0 (Nat.zero_le _) (by omega)
  rw [shl_0, wb_id, nI_0] at h
  refine Eq.trans h ?_
  rw [lt_d, wb_o _ _ (show M ≠ M + 2 by omega), hk]
  have e3 : nI 4 - 1 = nI 3 := rfl
  rw [e3]
  obtain ⟨τ2, e2⟩ : ∃ y, y = bz_wi (bz_wb τ (M + 2) (shl (τ.1 (M + 2)) 738)) M 2 (nI 3) := ⟨_, rfl⟩
  rw [← e2]
  have f1 : τ2.2 = τ.2 := by rw [e2]; rfl
  have f2 : τ2.1 M 2 = nI 3 := by rw [e2, wi_ss]
  have f3 : τ2.1 (M + 2) = shl (τ.1 (M + 2)) 738 := by rw [e2, wi_o _ _ _ (by omega), wb_s]
  have f4 : τ2.1 (M + 1) = τ.1 (M + 1) := by rw [e2, wi_o _ _ _ (by omega), wb_o _ _ (by omega)]
  have h := m_recL (τ := τ2) (n := 3) (by rw [f1]; exact hL) (by omega) f2 (k := (fun (σ10 : bz_W) => lt_ (bz_wi σ10 M 2 ((σ10.1 M 2) + 1)) fun σ11 => some (0, σ11))) 1100 0 (Nat.zero_le _) (by omega)
  rw [blit_0, wb_id, nI_0] at h
  rw [h, lt_d, wb_o _ _ (show M ≠ M + 2 by omega), f2, nI_1, f3, f4]
theorem m_undoL (hL : LyM τ.2 M) (hn : n < 4) (hk : τ.1 M 2 = nI n) {k : bz_W → Option (Int32 × bz_W)} : ∀ fuel j, j ≤ 246 → 246 - j < fuel → f_X7_undo_L22 M k fuel (nI j) (bz_wb τ (M + 1) (blit (τ.1 (M + 1)) (fun x => τ.1 (M + 2) (246 * n + x)) 0 j)) = k (bz_wb τ (M + 1) (blit (τ.1 (M + 1)) (fun x => τ.1 (M + 2) (246 * n + x)) 0 246)) := by
  intro fuel
  induction fuel with
  | zero => intro j hj h; omega
  | succ f ih =>
    intro j hj h
    rw [f_X7_undo_L22]
    by_cases hjn : j = 246
    · subst hjn
      rw [if_pos (show (246 : Int32) ≤ nI 246 from nI_le (a := 246) (Nat.le_refl _) (by omega))]
    · have hb := blit_s (τ.1 (M + 1)) (fun x => τ.1 (M + 2) (246 * n + x)) 0 j
      rw [Nat.zero_add] at hb
      rw [if_neg (show ¬ (246 : Int32) ≤ nI j from nI_ge (b := 246) (by omega) (by omega)), wb_o _ _ (show M ≠ M + 1 by omega), hk, ix_h, in_nI (by omega) (by omega), ck_t, in_nI (by omega) (by omega), ck_t, lt_d, lt_d, wb_2, hL.2.1, hL.1, wb_o _ _ (show M + 2 ≠ M + 1 by omega), nI_clamp (by omega), nI_clamp (by omega), wi_wb, hb, nI_1]
      exact ih (j + 1) (by omega) (by omega)
theorem m_keepL (hL : LyM τ.2 M) {k : bz_W → Option (Int32 × bz_W)} : ∀ fuel j, j ≤ 246 → 246 - j < fuel → f_X7_keep_L2 M k fuel (nI j) (bz_wb τ (M + 3) (blit (τ.1 (M + 3)) (τ.1 (M + 1)) 0 j)) = k (bz_wb τ (M + 3) (blit (τ.1 (M + 3)) (τ.1 (M + 1)) 0 246)) := by
  intro fuel
  induction fuel with
  | zero => intro j hj h; omega
  | succ f ih =>
    intro j hj h
    rw [f_X7_keep_L2]
    by_cases hjn : j = 246
    · subst hjn
      rw [if_pos (show (246 : Int32) ≤ nI 246 from nI_le (a := 246) (Nat.le_refl _) (by omega))]
    · have hb := blit_s (τ.1 (M + 3)) (τ.1 (M + 1)) 0 j
      rw [Nat.zero_add] at hb
      rw [if_neg (show ¬ (246 : Int32) ≤ nI j from nI_ge (b := 246) (by omega) (by omega)), in_nI (by omega) (by omega), ck_t, ck_t, lt_d, lt_d, wb_2, hL.2.2.1, hL.1, wb_o _ _ (show M + 1 ≠ M + 3 by omega), nI_clamp (by omega), wi_wb, hb, nI_1]
      exact ih (j + 1) (by omega) (by omega)
theorem m_restL (hL : LyM τ.2 M) {k : bz_W → Option (Int32 × bz_W)} : ∀ fuel j, j ≤ 246 → 246 - j < fuel → f_X7_restore_L16 M k fuel (nI j) (bz_wb τ (M + 1) (blit (τ.1 (M + 1)) (τ.1 (M + 3)) 0 j)) = k (bz_wb τ (M + 1) (blit (τ.1 (M + 1)) (τ.1 (M + 3)) 0 246)) := by
  intro fuel
  induction fuel with
  | zero => intro j hj h; omega
  | succ f ih =>
    intro j hj h
    rw [f_X7_restore_L16]
    by_cases hjn : j = 246
    · subst hjn
      rw [if_pos (show (246 : Int32) ≤ nI 246 from nI_le (a := 246) (Nat.le_refl _) (by omega))]
    · have hb := blit_s (τ.1 (M + 1)) (τ.1 (M + 3)) 0 j
      rw [Nat.zero_add] at hb
      rw [if_neg (show ¬ (246 : Int32) ≤ nI j from nI_ge (b := 246) (by omega) (by omega)), in_nI (by omega) (by omega), ck_t, ck_t, lt_d, lt_d, wb_2, hL.2.2.1, hL.1, wb_o _ _ (show M + 3 ≠ M + 1 by omega), nI_clamp (by omega), wi_wb, hb, nI_1]
      exact ih (j + 1) (by omega) (by omega)
end REC
theorem needR_congr {r r' : Nat → Int32} {i : Nat} (h0 : r' (8 + 20 * i) = r (8 + 20 * i)) (h1 : r' (8 + 20 * i + 1) = r (8 + 20 * i + 1)) (h2 : r' (8 + 20 * i + 2) = r (8 + 20 * i + 2)) : needR r' i = needR r i := by
  unfold needR peakR
  rw [h0, h1, h2]
theorem RM.congr {σ : bz_W} {q i : Nat} {r r' : Nat → Int32} (h : RM σ q r i) (hr : ∀ w, w < 20 → r' (8 + 20 * i + w) = r (8 + 20 * i + w)) : RM σ q r' i := by
  obtain ⟨h0, h1, h2, h3, h4, h5, h6, h7, h8, h9, h10, h11, hk, hn⟩ := h
  have z0 : r' (8 + 20 * i) = r (8 + 20 * i) := hr 0 (by decide)
  refine ⟨z0.trans h0, (hr 1 (by decide)).trans h1, (hr 2 (by decide)).trans h2, (hr 3 (by decide)).trans h3, (hr 4 (by decide)).trans h4, (hr 5 (by decide)).trans h5, (hr 6 (by decide)).trans h6, (hr 7 (by decide)).trans h7, (hr 8 (by decide)).trans h8, (hr 9 (by decide)).trans h9, (hr 10 (by decide)).trans h10, (hr 11 (by decide)).trans h11, fun k hk7 => ?_, ?_⟩
  · have := hr (12 + k) (by omega)
    rw [← Nat.add_assoc] at this
    exact this.trans (hk k hk7)
  · rw [hn, needR_congr z0 (hr 1 (by decide)) (hr 2 (by decide))]
theorem RS.congr {σ : bz_W} {a cnt ck t sz nx : Nat} {r r' : Nat → Int32} (h : RS σ a r cnt ck t sz nx) (hc : cnt ≤ 8) (hs : sz ≤ 10) (hr : ∀ x, x < 246 → r' x = r x) : RS σ a r' cnt ck t sz nx := by
  obtain ⟨⟨s0, r0⟩, ⟨s4, r1⟩, ⟨r2, r3, r5⟩, ⟨s23, r6⟩, ⟨s18, s18', r4⟩, hRM, hit, hev⟩ := h
  refine ⟨⟨s0, (hr 0 (by decide)).trans r0⟩, ⟨s4, (hr 1 (by decide)).trans r1⟩, ⟨(hr 2 (by decide)).trans r2, (hr 3 (by decide)).trans r3, (hr 5 (by decide)).trans r5⟩, ⟨s23, (hr 6 (by decide)).trans r6⟩, ⟨s18, s18', (hr 4 (by decide)).trans r4⟩, fun i hi => (hRM i hi).congr fun w hw => hr _ (by omega), fun j hj => ?_, fun j hj => ?_⟩
  · obtain ⟨i0, i1, i2, i3⟩ := hit j hj
    exact ⟨(hr _ (by omega)).trans i0, (hr _ (by omega)).trans i1, (hr _ (by omega)).trans i2, (hr _ (by omega)).trans i3⟩
  · obtain ⟨i0, i1, i2⟩ := hev j hj
    exact ⟨(hr _ (by omega)).trans i0, (hr _ (by omega)).trans i1, (hr _ (by omega)).trans i2⟩
theorem IT.congr {r r' : Nat → Int32} {j : Nat} (h : IT r j) (hr : ∀ w, w < 4 → r' (168 + 4 * j + w) = r (168 + 4 * j + w)) : IT r' j := by
  unfold IT
  rw [hr 1 (by decide), hr 2 (by decide), hr 3 (by decide)]
  exact h
theorem IS.congr {cnt ck t sz nx : Nat} {r r' : Nat → Int32} (h : IS r cnt ck t sz nx) (hr : ∀ x, x < 246 → r' x = r x) : IS r' cnt ck t sz nx := by
  obtain ⟨hc, hck, ht, hsz, hnx, hfan, hIM, hIT⟩ := h
  refine ⟨hc, hck, ht, hsz, hnx, ?_, fun i hi => (hIM i hi).congr fun w hw => hr _ (by omega), fun j hj => (hIT j hj).congr fun w hw => hr _ (by omega)⟩
  rw [hr 3 (by decide)]
  exact hfan
