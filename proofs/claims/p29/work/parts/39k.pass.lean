/-! pass -/
section PA
variable {σ τ : bz_W} {z i cnt ck t sz nx : Nat} {r : Nat → Int32}
theorem upd_congr {f g : Nat → Int32} {k y : Nat} {v : Int32} (h : f y = g y) : upd f k v y = upd g k v y := by
  by_cases e : y = k
  · subst e; rw [up_s, up_s]
  · rw [up_o _ _ e, up_o _ _ e, h]
theorem noteR_congr {r r' : Nat → Int32} {i y : Nat} {x : Int32} (h6 : r' 6 = r 6) (h1 : r' 1 = r 1) (hy : r' y = r y) : noteR r' i x y = noteR r i x y := by
  unfold noteR
  rw [h6, h1]
  exact upd_congr (upd_congr (upd_congr (upd_congr hy)))
theorem startR_congr {r r' : Nat → Int32} {m y : Nat} (h14 : r' (8 + 20 * m + 14) = r (8 + 20 * m + 14)) (hy : r' y = r y) : startR r' m y = startR r m y := by
  unfold startR
  rw [h14]
  exact upd_congr (upd_congr (upd_congr hy))
theorem start_row {r : Nat → Int32} {l : List Nat} {cnt m q : Nat} (hl : LineOK r cnt l) (hc : cnt ≤ 8) (hq : q ≤ l.length) (hm : m < 8) : ∀ y, y < 246 → noteR (startR (piR r (fun x => wtB r x && decide (pcnt r x cnt < q)) cnt) m) m 1 y = plR (noteR (startR r m) m 1) l q y := by
  intro y hy
  have hd : ∀ p q, p < l.length → q < l.length → l.getD p 0 = l.getD q 0 → p = q := fun p q h1 h2 e => by
    have a := hl.place h1
    have b := hl.place h2
    rw [e] at a
    omega
  have hlt : ∀ p, p < l.length → l.getD p 0 < cnt := fun p hp => ((hl.mem _).mp (getD_mem hp)).1
  have so : ∀ (r : Nat → Int32) x, startR r m (8 + 20 * x + 18) = r (8 + 20 * x + 18) := fun r x => by
    unfold startR
    rw [up_o _ _ (by omega), up_o _ _ (by omega), up_o _ _ (by omega)]
  by_cases hx : ∃ x, x < 8 ∧ y = 8 + 20 * x + 18
  · obtain ⟨x, x1, rfl⟩ := hx
    rw [noteR_o (by omega) (by omega), so]
    by_cases hp : ∃ p, p < q ∧ l.getD p 0 = x
    · obtain ⟨p, p1, rfl⟩ := hp
      have hmem := (hl.mem _).mp (getD_mem (show p < l.length by omega))
      have hpl := hl.place (show p < l.length by omega)
      rw [plR_in hd q hq p1, noteR_o (by omega) (by omega), so, piR_in cnt hmem.1, if_pos (show (wtB r (l.getD p 0) && decide (pcnt r (l.getD p 0) cnt < q)) = true by rw [hmem.2, hpl]; simp [p1])]
    · rw [plR_o q (fun p p1 e => hp ⟨p, p1, by omega⟩), noteR_o (by omega) (by omega), so]
      by_cases hxc : x < cnt
      · rw [piR_in cnt hxc, if_neg]
        intro hS
        simp at hS
        obtain ⟨p, p1, p2⟩ := mem_getD ((hl.mem x).mpr ⟨hxc, hS.1⟩)
        have hpl := hl.place p1
        rw [p2] at hpl
        exact hp ⟨p, by omega, p2⟩
      · rw [piR_o cnt (fun w hw => by omega)]
  · have hn : ∀ x, x < 8 → y ≠ 8 + 20 * x + 18 := fun x hx1 e => hx ⟨x, hx1, e⟩
    rw [plR_o q (fun p hp => hn _ (by have := hlt p (by omega); omega))]
    have f : ∀ w, (∀ x, x < 8 → w ≠ 8 + 20 * x + 18) → piR r (fun x => wtB r x && decide (pcnt r x cnt < q)) cnt w = r w := fun w hw => piR_o cnt (fun x hx => hw x (by omega))
    have ey := f y hn
    have e6 := f 6 (fun x hx => by omega)
    have e1 := f 1 (fun x hx => by omega)
    have e14 := f (8 + 20 * m + 14) (fun x hx => by omega)
    exact noteR_congr (startR_congr e14 e6) (startR_congr e14 e1) (startR_congr e14 ey)
theorem start_both (h : NW z σ r cnt ck t sz nx) (hN : τ.2 (z + 173) 0 = z + 174) (ht : t + 1 < 2 ^ 30) : ∃ v σ' r' t', f_X6_startFirstThatCan σ z = some (v, σ') ∧ f_X7_startOne (bz_wb τ (z + 174) r) (z + 173) = some (v, bz_wb τ (z + 174) r') ∧ Fr z σ σ' ∧ σ'.1 z 7 = σ.1 z 7 ∧ NW z σ' r' cnt ck t' sz nx ∧ t' ≤ t + 1 ∧ (v = 0 ∨ v = 1) := by
  obtain ⟨f', l, g1, g2, g3⟩ := c_fill h
  obtain ⟨k1, k2, k3⟩ := h.line f'
  have hlen := g2.len
  have hc := h.2.2.2.2.1.1
  obtain ⟨s1, es1⟩ : ∃ s, s = bz_wb σ (z + 172) f' := ⟨_, rfl⟩
  have hfl : ∀ p, p < l.length → s1.1 (z + 172) p = nI (l.getD p 0) := fun p hp => by rw [es1, wb_s]; exact g3 p hp
  rw [← es1] at g1 k1 k2 k3
  obtain ⟨q, q1, q2⟩ := pk_least (fun p => p = l.length ∨ (p < l.length ∧ agR r cnt (l.getD p 0) = 0)) ⟨l.length, Or.inl rfl⟩
  have hq : q ≤ l.length := by rcases q1 with q1 | q1 <;> omega
  have hb : ∀ p, p < q → ¬ agR r cnt (l.getD p 0) = 0 := fun p hp e => q2 p hp (Or.inr ⟨by omega, e⟩)
  have hz : q < l.length → agR r cnt (l.getD q 0) = 0 := fun hlt => by
    rcases q1 with q1 | q1
    · omega
    · exact q1.2
  unfold f_X6_startFirstThatCan f_X7_startOne
  have w0 := m_wat (τ := τ) h hN g2 (p := 0) (by omega)
  rw [nI_0] at w0
  rw [g1, bd_n, w0, bd_n]
  have hcl := c_stL k3 g2 hfl hq hb (k := (fun (σ24 : bz_W) => some ((0 : Int32), σ24))) (1100 - q) q 0 (by omega)
  rw [show 1100 - q + q = 1100 by omega, show 1100 - q = 1099 - q + 1 by omega, nI_0] at hcl
  rw [hcl]
  have hml := m_stL (τ := τ) h hN g2 hq hb hz (k := (fun (x10 : Int32) (x11 : Int32) (σ12 : bz_W) => if x11 = (-4) then some (0, σ12) else f_X7_startOne_L44 (z + 173) x10 x11 (fun (σ27 : bz_W) => bd_ (f_X7_put σ27 (z + 173) x11 5 2) fun _ σ29 => bd_ (f_X7_put σ29 (z + 173) x11 8 0) fun _ σ31 => bd_ (f_X7_more σ31 (z + 173) x11 14 1) fun _ σ33 => bd_ (f_X7_note σ33 (z + 173) x11 1) fun _ σ35 => some (1, σ35)) 1100 0 σ12)) 1100 0 (Nat.zero_le _) (by omega)
  rw [nI_0] at hml
  rw [hml, f_X6_startFirstThatCan_L7]
  by_cases hlt : q < l.length
  · have hm := (g2.mem _).mp (getD_mem hlt)
    have ha := hz hlt
    have ev : wv l q = nI (l.getD q 0) := by unfold wv; rw [if_pos hlt]
    obtain ⟨m, em⟩ : ∃ m, m = l.getD q 0 := ⟨_, rfl⟩
    rw [ev, if_neg (nI_ge hlt (by omega)), in_nI (by omega) (by omega), ck_n, k3.2.2.2.2.2.2, nI_clamp (by omega), hfl q hlt]
    rw [← em] at hm ha ⊢
    have hm8 : m < 8 := by omega
    have hne : ¬ nI m = -4 := fun e => by
      have := nI_pos (n := m) (by omega)
      rw [e] at this
      exact this (by decide)
    obtain ⟨hz0, hL, hnm, hS, hI, hs0, hs6⟩ := id k3
    have hR := hS.2.2.2.2.2.1 m hm.1
    have hIM := hI.2.2.2.2.2.2.1 m hm.1
    have kk2 : r (8 + 20 * m + 14) = s1.1 (z + 1 + 2 + 2 * m + 1) 2 := hR.2.2.2.2.2.2.2.2.2.2.2.2.1 2 (by omega)
    rw [if_neg hne, in_nI hm8 (by omega), ck_n, nI_clamp (by omega), hs0, hL.1, (hL.2.2.2.1 m hm8).1, c_against hL hS hI hm.1, bd_n, if_pos ha, lt_n, lt_n, lt_n]
    simp only [wi_2, (hL.2.2.2.1 m hm8).2, hs0]
    rw [show z + 1 + 3 + 2 * m = z + 1 + 2 + 2 * m + 1 by omega, wi_o _ _ _ (show z + 1 + 2 + 2 * m + 1 ≠ z + 1 + 2 + 2 * m by omega), wi_o _ _ _ (show z + 1 + 2 + 2 * m + 1 ≠ z + 1 + 2 + 2 * m by omega), ← kk2]
    have R3 := ((hR.set (F := 8) (w := 5) 2 (by omega)).set (F := 11) (w := 8) 0 (by omega)).acc (w := 2) (r (8 + 20 * m + 14) + 1) (by omega)
    have hIMs : IM (startR r m) ck m := by
      have hhe := agR_0 hIM ha
      obtain ⟨ra, rm, fa, li, ne, md, he, lo, sc, si, la, e0, e1, e2, e3, e4, e5, e6, e7, e8, e9, e10, bb⟩ := hIM
      rw [e3, e6, vN_nI (by omega), vN_nI (by omega)] at hhe
      unfold startR
      refine ⟨ra, rm, fa, li, ne, 2, he, lo, 0, si, la, ?_, ?_, ?_, ?_, ?_, ?_, ?_, ?_, ?_, ?_, ?_, by omega⟩
      all_goals first | (rw [up_o _ _ (by omega), up_o _ _ (by omega), up_o _ _ (by omega)]; assumption) | (rw [up_o _ _ (by omega), up_s]; rfl) | (rw [up_o _ _ (by omega), up_o _ _ (by omega), up_s]; rfl)
    obtain ⟨n1, n2, n3⟩ := k3.motor hm.1 (σ' := bz_wi (bz_wi (bz_wi s1 (z + 1 + 2 + 2 * m) 8 2) (z + 1 + 2 + 2 * m) 11 0) (z + 1 + 2 + 2 * m + 1) 2 (r (8 + 20 * m + 14) + 1)) (r' := startR r m) rfl (fun x q1 q2 => by rw [wi_o _ _ _ q2, wi_o _ _ _ q1, wi_o _ _ _ q1]) (by rw [wi_o _ _ _ (by omega), wi_so _ _ (by omega), wi_so _ _ (by omega)]) (fun y hy => by unfold startR; rw [up_o _ _ (by omega), up_o _ _ (by omega), up_o _ _ (by omega)]) R3 hIMs
    obtain ⟨s3, o1, o2, o3, o4, o5⟩ := n3.noted hm8 ht (x := 1) (by decide)
    have hfl3 : ∀ p, p < l.length → s3.1 (z + 172) p = nI (l.getD p 0) := fun p hp => by
      rw [o5 _ (by omega), wi_o _ _ _ (by omega), wi_o _ _ _ (by omega), wi_o _ _ _ (by omega)]
      exact hfl p hp
    obtain ⟨s4, p1, p2, p3, p4⟩ := c_poL (l := l) (q := q) (R := noteR (startR r m) m 1) (k := (fun (σ11 : bz_W) => some ((0 : Int32), σ11))) (fun p hp => ((g2.mem _).mp (getD_mem hp)).1) (by omega) hq 1100 0 s3 (Nat.zero_le _) (by omega) o4 hfl3
    have hpo : f_X6_passOver s3 z (nI q) = some (0, s4) := by
      unfold f_X6_passOver
      exact p1
    rw [o1, bd_n, hpo, bd_n]
    have hpi := m_piL (τ := τ) h hN (q := q) (by omega) (nI m) (k := (fun (σ27 : bz_W) => bd_ (f_X7_put σ27 (z + 173) (nI m) 5 2) fun _ σ29 => bd_ (f_X7_put σ29 (z + 173) (nI m) 8 0) fun _ σ31 => bd_ (f_X7_more σ31 (z + 173) (nI m) 14 1) fun _ σ33 => bd_ (f_X7_note σ33 (z + 173) (nI m) 1) fun _ σ35 => some (1, σ35))) 1100 0 (Nat.zero_le _) (by omega)
    rw [nI_0] at hpi
    rw [show piR r (fun x => wtB r x && decide (pcnt r x cnt < q)) 0 = r from rfl] at hpi
    rw [hpi, m_put5 hN hm8, bd_n, m_put8 hN hm8, bd_n, m_more14 hN hm8, bd_n, up_o _ _ (show 8 + 20 * m + 14 ≠ 8 + 20 * m + 8 by omega), up_o _ _ (show 8 + 20 * m + 14 ≠ 8 + 20 * m + 5 by omega), m_note hN (t := t) (by rw [up_o _ _ (by omega), up_o _ _ (by omega), up_o _ _ (by omega), piR_o cnt (fun x hx => by omega)]; exact hS.2.2.2.1.2) (by omega), bd_n]
    have hrow := start_row g2 hc hq hm8
    have hNW : NW z s4 (noteR (startR (piR r (fun x => wtB r x && decide (pcnt r x cnt < q)) cnt) m) m 1) cnt ck (t + 1) sz nx := ⟨p4.1, p4.2.1, p4.2.2.1, p4.2.2.2.1.congr p4.2.2.2.2.1.1 p4.2.2.2.2.1.2.2.2.1 hrow, p4.2.2.2.2.1.congr hrow, p4.2.2.2.2.2⟩
    exact ⟨1, s4, _, t + 1, rfl, rfl, ((k1.trans n1).trans o2).trans p2, by rw [p3, o3, n2, k2], hNW, Nat.le_refl _, Or.inr rfl⟩
  · have ev : wv l q = -4 := by unfold wv; rw [if_neg hlt]
    rw [ev, if_pos (nI_le (by omega) (by omega)), if_pos rfl]
    exact ⟨0, s1, r, t, rfl, rfl, k1, k2, k3, by omega, Or.inl rfl⟩
theorem NW.tick (h : NW z σ r cnt ck t sz nx) (hk : ck + 1 < 2 ^ 30) : Fr z σ (bz_wi σ (z + 1) 4 (nI ck + 1)) ∧ NW z (bz_wi σ (z + 1) 4 (nI ck + 1)) (upd r 1 (nI ck + 1)) cnt (ck + 1) t sz nx := by
  obtain ⟨hz, h1, h2, h3, h4, h5, h6⟩ := id h
  have hF : Fr z σ (bz_wi σ (z + 1) 4 (nI ck + 1)) := (Fr.refl z σ).wi _ (by omega) (Or.inl (by omega))
  refine ⟨hF, h.next hF (h3.hdr h4.1 (fun x hx => wi_o _ _ _ hx) (fun y hy => up_o _ _ (by omega)) (wi_so _ _ (by omega)) ⟨by rw [wi_ss, nI_1], by rw [up_s, nI_1]⟩ ⟨by rw [up_o _ _ (by omega), wi_so _ _ (by omega)]; exact h3.2.2.1.1, by rw [up_o _ _ (by omega), wi_so _ _ (by omega)]; exact h3.2.2.1.2.1, by rw [up_o _ _ (by omega), wi_so _ _ (by omega)]; exact h3.2.2.1.2.2⟩) (h4.hdr (by omega) hk (fun y hy => up_o _ _ (by omega)) (by rw [up_o _ _ (by omega)]; exact h4.2.2.2.2.2.1))⟩
theorem pass_L {n : Nat} (hn : n ≤ 60) : ∀ fuel s (v : Int32) (σ τ : bz_W) (r : Nat → Int32) (ck t nx : Nat), s ≤ n → n - s < fuel → PS z σ τ r cnt ck t sz nx → t + (sz - nx) + 9 * (n - s) < 2 ^ 29 → ck + (n - s) < 2 ^ 29 → ∃ w σ' τ' r' ck' t' nx', f_X6_pass_L28 z (nI n) (fun (x23 : Int32) (σ24 : bz_W) => some (x23, σ24)) fuel v (nI s) σ = some (w, σ') ∧ f_X7_pass_L21 (z + 173) (nI n) (fun (x21 : Int32) (σ22 : bz_W) => some (x21, σ22)) fuel v (nI s) (bz_wb τ (z + 174) r) = some (w, bz_wb τ' (z + 174) r') ∧ Fr z σ σ' ∧ FrM z τ τ' ∧ PS z σ' τ' r' cnt ck' t' sz nx' ∧ ck' ≤ ck + (n - s) ∧ t' ≤ t + (sz - nx) + 9 * (n - s) := by
  intro fuel
  induction fuel with
  | zero => intro s v σ τ r ck t nx h1 h2; omega
  | succ f ih =>
    intro s v σ τ r ck t nx h1 h2 h ht hck
    rw [f_X6_pass_L28, f_X7_pass_L21]
    by_cases e : s = n
    · subst e
      rw [if_pos (nI_le (Nat.le_refl _) (by omega)), if_pos (nI_le (Nat.le_refl _) (by omega))]
      exact ⟨v, σ, τ, r, ck, t, nx, rfl, rfl, Fr.refl z σ, FrM.refl z τ, h, by omega, by omega⟩
    · obtain ⟨σ1, τ1, r1, t1, nx1, a1, a2, a3, a4, a5, a6⟩ := items_both h (by omega)
      obtain ⟨p1, p2, p3⟩ := id a5
      obtain ⟨w, σ2, r2, t2, b1, b2, b3, b4, b5, b6, b7⟩ := start_both p1 p2 (by omega)
      have hc := b5.2.2.2.2.1.1
      have hge : ¬ nI n ≤ nI s := nI_ge (by omega) (by omega)
      obtain ⟨σ3, r3, t3, c1, c2, c3, c4, c5, c6⟩ := heat_cL 1100 0 σ2 r2 t2 b5 p2 (Nat.zero_le _) (by omega) (by omega)
      obtain ⟨d1, d2⟩ := c5.tick (by omega)
      have hhm : f_X6_heatMotors σ2 z = some (0, σ3) := by
        unfold f_X6_heatMotors
        exact c1
      have n1 : z + 173 ≠ z + 174 := by omega
      have hps : PS z (bz_wi σ3 (z + 1) 4 (nI ck + 1)) τ1 (upd r3 1 (nI ck + 1)) cnt (ck + 1) t3 sz nx1 := ⟨d2, p2, by rw [wi_o _ _ _ (by omega), c4, b4]; exact p3⟩
      obtain ⟨w', σ4, τ4, r4, ck4, t4, nx4, i1, i2, i3, i4, i5, i6, i7⟩ := ih (s + 1) (v + w) _ τ1 _ (ck + 1) t3 nx1 (by omega) (by omega) hps (by omega) (by omega)
      refine ⟨w', σ4, τ4, r4, ck4, t4, nx4, ?_, ?_, ((a3.trans b3).trans c3).trans (d1.trans i3), a4.trans i4, i5, by omega, by omega⟩
      · rw [if_neg hge, a1, bd_n, b1, bd_n, lt_n]
        have core : (bd_ (f_X6_heatMotors σ2 z) fun _ σ17 => lt_ (bz_wi σ17 (σ17.2 z 0) 4 ((σ17.1 (σ17.2 z 0) 4) + 1)) fun σ19 => lt_ (nI s + 1) fun x20 => f_X6_pass_L28 z (nI n) (fun (x23 : Int32) (σ24 : bz_W) => some (x23, σ24)) f (v + w) x20 σ19) = some (w', σ4) := by
          rw [hhm, bd_n, lt_n, lt_n, c5.2.2.2.2.2.1, c5.2.2.2.1.2.1.1, nI_1 s]
          exact i1
        rcases b7 with rfl | rfl
        · rw [if_pos rfl]
          rw [Int32.add_zero] at core
          exact core
        · rw [if_neg (by decide), lt_n]
          exact core
      · rw [if_neg hge, a2, bd_n, b2, bd_n, lt_n]
        have hh := c2 (nI n) (v + w) (nI s) (fun (σ17 : bz_W) => lt_ (bz_wi σ17 (σ17.2 (z + 173) 0) 1 ((σ17.1 (σ17.2 (z + 173) 0) 1) + 1)) fun σ19 => lt_ (nI s + 1) fun x20 => f_X7_pass_L21 (z + 173) (nI n) (fun (x21 : Int32) (σ22 : bz_W) => some (x21, σ22)) f (v + w) x20 σ19)
        rw [nI_0] at hh
        rw [hh, lt_n, lt_n, wb_2, p2, wb_s, wi_wb, c5.2.2.2.1.2.1.2, nI_1 s]
        exact i2
end PA
theorem sm_pass {z k : Nat} {σ τ : bz_W} (h : bz_Rel z k σ τ) (hk : k < 512) (x1 : Int32) : ∃ v σ1 τ1, f_X6_pass σ z x1 = some (v, σ1) ∧ f_X7_pass τ (z + 173) x1 = some (v, τ1) ∧ bz_Rel z (k + 1) σ1 τ1 := by
  obtain ⟨cnt, ck, t, sz, nx, hw, hN, a1, hr, hck, htt⟩ := Rel.nw h
  unfold f_X6_pass f_X7_pass
  rcases io_cases x1 1 60 with ⟨c1, c2, c3, c4⟩ | ⟨c1, c2⟩
  · obtain ⟨n, n1, n2, rfl⟩ := rng 1 60 rfl rfl (by omega) (by omega) c3 c4
    rw [c1, c2, bd_n, bd_n, if_pos rfl, if_neg (by decide), a1, hw.2.2.2.2.2.1]
    obtain ⟨σ', τ', f1, f2, f3, hS', er, ⟨b0, -, -, -, -, b6⟩, hN', hL', hr', -⟩ := Rel.go h hw.2.2.2.1 hw.2.2.2.2.1.1
    have hnm : NmS σ' (z + 1) := by
      obtain ⟨hs, m, -, -, -, -, m5, -⟩ := id f3
      exact m5.1
    have hI' : IS (τ'.1 (z + 174)) cnt ck t sz nx := by rw [er]; exact hw.2.2.2.2.1
    have hps : PS z σ' τ' (τ'.1 (z + 174)) cnt ck t sz nx := ⟨⟨hw.1, hL', hnm, hS', hI', b0, b6⟩, hN', hr'⟩
    have hsz := hI'.2.2.2.1
    obtain ⟨w, σ2, τ2, r2, ck2, t2, nx2, g1, g2, g3, g4, g5, g6, g7⟩ := pass_L (z := z) (cnt := cnt) (sz := sz) n2 1100 0 0 σ' τ' _ ck t nx (Nat.zero_le _) (by omega) hps (by omega) (by omega)
    rw [nI_0] at g1 g2
    rw [wb_id] at g2
    rw [f1, f2, bd_n, bd_n, g1, g2]
    refine ⟨w, σ2, _, rfl, rfl, ?_⟩
    refine Rel.now f3 g3 (g4.trans (FrM.wb z τ2 r2)) ?_ ?_ (by omega) (by omega)
    · rw [wb_s]
      exact ⟨cnt, ck2, t2, sz, nx2, g5.1.2.2.2.1, g5.1.2.2.2.2.1, by omega, by omega⟩
    · rw [wb_o _ _ (by omega)]
      exact g5.2.2
  · rw [c1, c2]
    exact ⟨_, _, _, rfl, rfl, sm_idle h⟩
