/-! one second on the row of a bay -/
def goF (r : Nat → Int32) (i : Nat) : Nat → (Nat → Int32)
  | 0 => r
  | n + 1 => goF (goR r i) (i + 1) n
def stR (r : Nat → Int32) (cnt : Nat) (l : List Nat) (q : Nat) : Nat → Int32 := noteR (startR (piR r (fun x => wtB r x && decide (pcnt r x cnt < q)) cnt) (l.getD q 0)) (l.getD q 0) 1
theorem MS.congr {r r' : Nat → Int32} {ck i : Nat} (h : MS r ck i) (hr : ∀ w, w < 20 → w ≠ 18 → r' (8 + 20 * i + w) = r (8 + 20 * i + w)) : MS r' ck i := by
  unfold MS
  rw [hr 12 (by omega) (by omega), hr 13 (by omega) (by omega), hr 6 (by omega) (by omega), hr 5 (by omega) (by omega), hr 7 (by omega) (by omega), hr 11 (by omega) (by omega), hr 14 (by omega) (by omega), hr 16 (by omega) (by omega)]
  exact h
/-- in the midst of a second: the motors below i have had it -/
def HR (r : Nat → Int32) (cnt ck t i : Nat) : Prop := RF r cnt ck t ∧ r 4 = 0 ∧ (∀ j, j < i → j < cnt → MI r (ck + 1) j) ∧ ∀ j, i ≤ j → j < cnt → MS r ck j
section SE
variable {r : Nat → Int32} {cnt ck t i : Nat}
theorem RF.note (h : RF r cnt ck t) (ht1 : t + 1 < 2 ^ 30) (j : Nat) (x : Int32) : RF (noteR r j x) cnt ck (t + 1) := by
  obtain ⟨h0, h1, h6, hc, hck, ht, h3, hI0⟩ := h
  have o : ∀ y, y ≠ 6 → y < 216 → noteR r j x y = r y := fun y g1 g2 => noteR_o g1 (Or.inl g2)
  refine ⟨by rw [o 0 (by omega) (by omega)]; exact h0, by rw [o 1 (by omega) (by omega)]; exact h1, ?_, hc, hck, ht1, by rw [o 3 (by omega) (by omega)]; exact h3, fun i hi => (hI0 i hi).congr fun w hw => o _ (by omega) (by omega)⟩
  unfold noteR
  rw [up_s, h6, nI_1]
theorem HR.note (h : HR r cnt ck t i) (ht1 : t + 1 < 2 ^ 30) (j : Nat) (x : Int32) : HR (noteR r j x) cnt ck (t + 1) i := by
  have hc := h.1.2.2.2.1
  have o : ∀ y, y ≠ 6 → y < 216 → noteR r j x y = r y := fun y g1 g2 => noteR_o g1 (Or.inl g2)
  exact ⟨h.1.note ht1 j x, by rw [o 4 (by omega) (by omega)]; exact h.2.1, fun a ha ha2 => (h.2.2.1 a ha ha2).congr fun w hw => o _ (by omega) (by omega), fun a ha ha2 => (h.2.2.2 a ha ha2).congr fun w hw _ => o _ (by omega) (by omega)⟩
theorem HR.go (h : HR r cnt ck t i) (hi : i < cnt) (ht1 : t + 1 < 2 ^ 30) : ∃ t', t' ≤ t + 1 ∧ HR (goR r i) cnt ck t' (i + 1) := by
  obtain ⟨⟨h0, h1, h6, hc, hck, ht, h3, hI0⟩, h4, hM, hS⟩ := h
  have hi8 : i < 8 := by omega
  obtain ⟨g1, g2, -⟩ := go_pure hi8 h3 (hI0 i hi)
  have hE : HR (endR (r3R r i) i (turnR r i)) cnt ck t (i + 1) := by
    refine ⟨⟨by rw [g2 0 (by omega)]; exact h0, by rw [g2 1 (by omega)]; exact h1, by rw [g2 6 (by omega)]; exact h6, hc, hck, ht, by rw [g2 3 (by omega)]; exact h3, fun j hj => ?_⟩, by rw [g2 4 (by omega)]; exact h4, fun j hj hj2 => ?_, fun j hj hj2 => (hS j (by omega) hj2).congr fun w hw _ => g2 _ (by omega)⟩
    · by_cases e : j = i
      · subst e; exact g1
      · exact (hI0 j hj).congr fun w hw => g2 _ (by omega)
    · by_cases e : j = i
      · subst e; exact (hS j (Nat.le_refl _) hj2).go
      · exact (hM j (by omega) hj2).congr fun w hw => g2 _ (by omega)
  unfold goR finR
  split
  · exact ⟨t, by omega, hE⟩
  · exact ⟨t + 1, by omega, hE.note ht1 _ _⟩
theorem HR.goF : ∀ n i r t, i + n = cnt → HR r cnt ck t i → t + n < 2 ^ 30 → ∃ t', t' ≤ t + n ∧ HR (goF r i n) cnt ck t' cnt
  | 0, i, r, t, e, h, _ => ⟨t, by omega, by rw [show i = cnt by omega] at h ⊢; exact h⟩
  | n + 1, i, r, t, e, h, ht => by
    obtain ⟨t1, e1, h1⟩ := h.go (by omega) (by omega)
    obtain ⟨t2, e2, h2⟩ := HR.goF n (i + 1) (goR r i) t1 (by omega) h1 (by omega)
    exact ⟨t2, by omega, h2⟩
theorem goF_o {y : Nat} (h6 : y ≠ 6) (h : y < 216 ∨ 246 ≤ y) : ∀ n i r, (∀ j w, w < 20 → w ≠ 0 → w ≠ 14 → w ≠ 18 → y ≠ 8 + 20 * j + w) → goF r i n y = r y
  | 0, _, _, _ => rfl
  | n + 1, i, r, hy => by
    show goF (goR r i) (i + 1) n y = r y
    rw [goF_o h6 h n (i + 1) (goR r i) hy, goR_o h6 h (hy i)]
theorem goF_far {y : Nat} (h : 246 ≤ y) : ∀ n i r, i + n ≤ 8 → goF r i n y = r y
  | 0, _, _, _ => rfl
  | n + 1, i, r, hi => by
    show goF (goR r i) (i + 1) n y = r y
    rw [goF_far h n (i + 1) (goR r i) (by omega), goR_o (by omega) (Or.inr h) (fun w _ _ _ _ => by omega)]
theorem goF_mode {j : Nat} (hj : j < 8) : ∀ n i r, i + n ≤ 8 → goF r i n (8 + 20 * j + 5) = 2 → r (8 + 20 * j + 5) = 2
  | 0, _, _, _, h => h
  | n + 1, i, r, hi, h => by
    have h1 := goF_mode hj n (i + 1) (goR r i) (by omega) h
    by_cases e : j = i
    · subst e
      exact go_mode2 (by omega) h1
    · rw [goR_o (by omega) (by omega) (fun w _ _ _ _ => by omega)] at h1
      exact h1
/-- the model's loop over the motors -/
theorem heat_L {τ : bz_W} {M N : Nat} (hN : τ.2 M 0 = N) (x1 x2 x3 : Int32) (k : bz_W → Option (Int32 × bz_W)) : ∀ fuel n i r t, i + n = cnt → n < fuel → HR r cnt ck t i → t + n < 2 ^ 30 → f_X7_pass_L40 M x1 x2 x3 k fuel (nI i) (bz_wb τ N r) = k (bz_wb τ N (goF r i n)) := by
  intro fuel
  induction fuel with
  | zero => intro n i r t e hf; omega
  | succ f ih =>
    intro n i r t e hf h ht
    have hc := h.1.2.2.2.1
    match n, e, hf, ht with
    | 0, e, hf, ht =>
      rw [f_X7_pass_L40, wb_2, hN, wb_s, h.1.1, if_pos (nI_le (by omega) (by omega))]
      rfl
    | n + 1, e, hf, ht =>
      obtain ⟨t1, e1, h1⟩ := h.go (by omega) (by omega)
      obtain ⟨-, -, g3⟩ := go_pure (show i < 8 by omega) h.1.2.2.2.2.2.2.1 (h.1.2.2.2.2.2.2.2 i (by omega))
      rw [f_X7_pass_L40, wb_2, hN, wb_s, h.1.1, if_neg (nI_ge (by omega) (by omega)), g3 hN h.1.2.2.1 (by omega), bd_n, lt_n, nI_1]
      exact ih n (i + 1) (goR r i) t1 (by omega) (by omega) h1 (by omega)
theorem startR_o {m y : Nat} (h5 : y ≠ 8 + 20 * m + 5) (h8 : y ≠ 8 + 20 * m + 8) (h14 : y ≠ 8 + 20 * m + 14) : startR r m y = r y := by
  unfold startR
  rw [up_o _ _ h14, up_o _ _ h8, up_o _ _ h5]
/-- a motor that can starts -/
theorem GF.start (h : GF r cnt ck t) (ht1 : t + 1 < 2 ^ 30) {l : List Nat} (hl : LineOK r cnt l) {q : Nat} (hq : q < l.length) (ha : agR r cnt (l.getD q 0) = 0) : HR (stR r cnt l q) cnt ck (t + 1) 0 := by
  obtain ⟨m, em⟩ : ∃ m, m = l.getD q 0 := ⟨_, rfl⟩
  have hm := ((hl.mem _).mp (getD_mem hq)).1
  unfold stR
  rw [← em] at hm ha ⊢
  obtain ⟨⟨h0, h1, h6, hc, hck, ht, h3, hI0⟩, h4, hM0⟩ := h
  obtain ⟨p, ep⟩ : ∃ p, p = piR r (fun x => wtB r x && decide (pcnt r x cnt < q)) cnt := ⟨_, rfl⟩
  rw [← ep]
  have po : ∀ y, (∀ x, y ≠ 8 + 20 * x + 18) → p y = r y := fun y hy => by rw [ep]; exact piR_o cnt (fun x _ => hy x)
  have hIM := hI0 m hm
  have h7 : r (8 + 20 * m + 7) = 0 := by
    unfold agR at ha
    by_cases e : r (8 + 20 * m + 7) = 0
    · exact e
    · rw [if_neg e] at ha
      exact absurd ha (by decide)
  have hhe := agR_0 hIM ha
  have hs : HR (startR p m) cnt ck t 0 := by
    refine ⟨⟨by rw [startR_o (by omega) (by omega) (by omega), po _ (fun x => by omega)]; exact h0, by rw [startR_o (by omega) (by omega) (by omega), po _ (fun x => by omega)]; exact h1, by rw [startR_o (by omega) (by omega) (by omega), po _ (fun x => by omega)]; exact h6, hc, hck, ht, by rw [startR_o (by omega) (by omega) (by omega), po _ (fun x => by omega)]; exact h3, fun j hj => ?_⟩, by rw [startR_o (by omega) (by omega) (by omega), po _ (fun x => by omega)]; exact h4, fun j hj => absurd hj (Nat.not_lt_zero _), fun j _ hj => ?_⟩
    · by_cases e : j = m
      · subst e
        obtain ⟨ra, rm, fa, li, ne, md, he, lo, sc, si, la, e0, e1, e2, e3, e4, e5, e6, e7, e8, e9, e10, bb⟩ := hIM
        rw [e3, e6, vN_nI (by omega), vN_nI (by omega)] at hhe
        refine ⟨ra, rm, fa, li, ne, 2, he, lo, 0, si, la, ?_, ?_, ?_, ?_, ?_, ?_, ?_, ?_, ?_, ?_, ?_, by omega⟩
        all_goals first | (rw [startR_o (by omega) (by omega) (by omega), po _ (fun x => by omega)]; assumption) | (unfold startR; rw [up_o _ _ (by omega), up_s]; rfl) | (unfold startR; rw [up_o _ _ (by omega), up_o _ _ (by omega), up_s]; rfl)
      · exact (hI0 j hj).congr fun w hw => by rw [startR_o (by omega) (by omega) (by omega), po _ (fun x => by omega)]
    · by_cases e : j = m
      · subst e
        obtain ⟨a, b, c, s, u, d, e, f, g⟩ := hM0 j hj
        have e5 : startR p j (8 + 20 * j + 5) = 2 := by unfold startR; rw [up_o _ _ (by omega), up_o _ _ (by omega), up_s]
        have e14 : startR p j (8 + 20 * j + 14) = nI (s + 1) := by unfold startR; rw [up_s, po _ (fun x => by omega), d, nI_1]
        have oo : ∀ w, w < 18 → w ≠ 5 → w ≠ 8 → w ≠ 14 → startR p j (8 + 20 * j + w) = r (8 + 20 * j + w) := fun w q1 q2 q3 q4 => by rw [startR_o (by omega) (by omega) (by omega), po _ (fun x => by omega)]
        unfold MS
        rw [e5, e14, oo 12 (by omega) (by omega) (by omega) (by omega), oo 13 (by omega) (by omega) (by omega) (by omega), oo 6 (by omega) (by omega) (by omega) (by omega), oo 7 (by omega) (by omega) (by omega) (by omega), oo 16 (by omega) (by omega) (by omega) (by omega)]
        exact ⟨a, fun _ => h7, fun e => absurd e (by decide), s + 1, u, rfl, e, by rw [if_pos rfl]; omega, g⟩
      · exact (hM0 j hj).ms.congr fun w hw h18 => by rw [startR_o (by omega) (by omega) (by omega), po _ (fun x => by omega)]
  exact hs.note ht1 m 1
/-- one second: from the row r to the row r', v motors start -/
def SC (cnt : Nat) (r r' : Nat → Int32) (v : Int32) : Prop := ∃ l q, LineOK r cnt l ∧ q ≤ l.length ∧ (∀ p, p < q → ¬ agR r cnt (l.getD p 0) = 0) ∧ (q < l.length → agR r cnt (l.getD q 0) = 0) ∧ v = (if q < l.length then 1 else 0) ∧ r' = upd (goF (if q < l.length then stR r cnt l q else r) 0 cnt) 1 (r 1 + 1)
theorem SC.det {r1 r2 : Nat → Int32} {v1 v2 : Int32} (h1 : SC cnt r r1 v1) (h2 : SC cnt r r2 v2) : r1 = r2 ∧ v1 = v2 := by
  obtain ⟨l, q, a1, a2, a3, a4, a5, a6⟩ := h1
  obtain ⟨l', q', b1, b2, b3, b4, b5, b6⟩ := h2
  obtain rfl := a1.uniq b1
  have e : q = q' := by
    rcases Nat.lt_trichotomy q q' with g | g | g
    · exact absurd (a4 (by omega)) (b3 q g)
    · exact g
    · exact absurd (b4 (by omega)) (a3 q' g)
  subst e
  exact ⟨a6.trans b6.symm, a5.trans b5.symm⟩
theorem sec_ex (h : GF r cnt ck t) (ht : t + 9 < 2 ^ 30) (hk : ck + 1 < 2 ^ 30) : ∃ r' v t', SC cnt r r' v ∧ GF r' cnt (ck + 1) t' ∧ t' ≤ t + 9 ∧ ∀ {τ : bz_W} {z : Nat}, τ.2 (z + 173) 0 = z + 174 → ∀ (a1 v2 v3 : Int32) (k : Int32 → bz_W → Option (Int32 × bz_W)) (f : Nat), ¬ a1 ≤ v3 → f_X7_pass_L21 (z + 173) a1 k (f + 1) v2 v3 (bz_wb τ (z + 174) r) = f_X7_pass_L21 (z + 173) a1 k f (v2 + v) (v3 + 1) (bz_wb τ (z + 174) r') := by
  obtain ⟨l, hl⟩ := line_ex r cnt
  have hc := h.1.2.2.2.1
  have hlen := hl.len
  obtain ⟨q, q1, q2⟩ := pk_least (fun p => p = l.length ∨ (p < l.length ∧ agR r cnt (l.getD p 0) = 0)) ⟨l.length, Or.inl rfl⟩
  have hq : q ≤ l.length := by rcases q1 with q1 | q1 <;> omega
  have hb : ∀ p, p < q → ¬ agR r cnt (l.getD p 0) = 0 := fun p hp e => q2 p hp (Or.inr ⟨by omega, e⟩)
  have hz : q < l.length → agR r cnt (l.getD q 0) = 0 := fun hlt => by
    rcases q1 with q1 | q1
    · omega
    · exact q1.2
  -- the row behind the start
  obtain ⟨rs, ers⟩ : ∃ rs, rs = if q < l.length then stR r cnt l q else r := ⟨_, rfl⟩
  obtain ⟨ts, ets, hHR⟩ : ∃ ts, ts ≤ t + 1 ∧ HR rs cnt ck ts 0 := by
    by_cases hlt : q < l.length
    · exact ⟨t + 1, by omega, by rw [ers, if_pos hlt]; exact h.start (by omega) hl hlt (hz hlt)⟩
    · exact ⟨t, by omega, by rw [ers, if_neg hlt]; exact ⟨h.1, h.2.1, fun j hj => absurd hj (Nat.not_lt_zero _), fun j _ hj => (h.2.2 j hj).ms⟩⟩
  obtain ⟨t2, et2, hF⟩ := HR.goF cnt 0 rs ts (by omega) hHR (by omega)
  have h1s : rs 1 = r 1 := hHR.1.2.1.trans h.1.2.1.symm
  refine ⟨upd (goF rs 0 cnt) 1 (r 1 + 1), if q < l.length then 1 else 0, t2, ⟨l, q, hl, hq, hb, hz, rfl, by rw [ers]⟩, ?_, by omega, ?_⟩
  · obtain ⟨⟨f0, f1, f6, fc, fck, ft, f3, fI⟩, f4, fM, -⟩ := hF
    refine ⟨⟨by rw [up_o _ _ (by omega)]; exact f0, by rw [up_s, h.1.2.1, nI_1], by rw [up_o _ _ (by omega)]; exact f6, fc, hk, ft, by rw [up_o _ _ (by omega)]; exact f3, fun j hj => ((fI j hj).congr fun w hw => up_o _ _ (by omega)).mono (Nat.le_succ _)⟩, by rw [up_o _ _ (by omega)]; exact f4, fun j hj => (fM j hj hj).congr fun w hw => up_o _ _ (by omega)⟩
  · intro τ z hN a1 v2 v3 k f hle
    have hit : f_X7_carryOutItems (bz_wb τ (z + 174) r) (z + 173) = some (0, bz_wb τ (z + 174) r) := by
      show f_X7_carryOutItems_L0 (z + 173) _ (1099 + 1) _ = _
      rw [f_X7_carryOutItems_L0, wb_2, hN, wb_s, h.2.1, if_pos (Int32.le_refl _)]
    have hst : f_X7_startOne (bz_wb τ (z + 174) r) (z + 173) = some (if q < l.length then 1 else 0, bz_wb τ (z + 174) rs) := by
      have w0 := r_wat (τ := τ) h.1 hN hl (p := 0) (by omega)
      rw [nI_0] at w0
      unfold f_X7_startOne
      rw [w0, bd_n]
      have hml := r_stL (τ := τ) h.1 hN hl hq hb hz (k := (fun (x10 : Int32) (x11 : Int32) (σ12 : bz_W) => if x11 = (-4) then some (0, σ12) else f_X7_startOne_L44 (z + 173) x10 x11 (fun (σ27 : bz_W) => bd_ (f_X7_put σ27 (z + 173) x11 5 2) fun _ σ29 => bd_ (f_X7_put σ29 (z + 173) x11 8 0) fun _ σ31 => bd_ (f_X7_more σ31 (z + 173) x11 14 1) fun _ σ33 => bd_ (f_X7_note σ33 (z + 173) x11 1) fun _ σ35 => some (1, σ35)) 1100 0 σ12)) 1100 0 (Nat.zero_le _) (by omega)
      rw [nI_0] at hml
      rw [hml]
      by_cases hlt : q < l.length
      · have hm := ((hl.mem _).mp (getD_mem hlt)).1
        have ev : wv l q = nI (l.getD q 0) := by unfold wv; rw [if_pos hlt]
        obtain ⟨m, em⟩ : ∃ m, m = l.getD q 0 := ⟨_, rfl⟩
        rw [← em] at hm ev
        have hm8 : m < 8 := by omega
        have hpi := r_piL (τ := τ) h.1 hN (q := q) (by omega) (nI m) (k := (fun (σ27 : bz_W) => bd_ (f_X7_put σ27 (z + 173) (nI m) 5 2) fun _ σ29 => bd_ (f_X7_put σ29 (z + 173) (nI m) 8 0) fun _ σ31 => bd_ (f_X7_more σ31 (z + 173) (nI m) 14 1) fun _ σ33 => bd_ (f_X7_note σ33 (z + 173) (nI m) 1) fun _ σ35 => some (1, σ35))) 1100 0 (Nat.zero_le _) (by omega)
        rw [nI_0, show piR r (fun x => wtB r x && decide (pcnt r x cnt < q)) 0 = r from rfl] at hpi
        rw [ev, if_neg (ne_m4 (by omega)), hpi, m_put5 hN hm8, bd_n, m_put8 hN hm8, bd_n, m_more14 hN hm8, bd_n, up_o _ _ (show 8 + 20 * m + 14 ≠ 8 + 20 * m + 8 by omega), up_o _ _ (show 8 + 20 * m + 14 ≠ 8 + 20 * m + 5 by omega), m_note hN (t := t) (by rw [up_o _ _ (by omega), up_o _ _ (by omega), up_o _ _ (by omega), piR_o cnt (fun x hx => by omega)]; exact h.1.2.2.1) (by omega), bd_n, if_pos hlt, ers, if_pos hlt]
        unfold stR startR
        rw [← em]
      · have ev : wv l q = -4 := by unfold wv; rw [if_neg hlt]
        rw [ev, if_pos rfl, if_neg hlt, ers, if_neg hlt]
    have hh := heat_L (ck := ck) hN a1 (v2 + (if q < l.length then 1 else 0)) v3 (fun (σ17 : bz_W) => lt_ (bz_wi σ17 (σ17.2 (z + 173) 0) 1 ((σ17.1 (σ17.2 (z + 173) 0) 1) + 1)) fun σ19 => lt_ (v3 + 1) fun x20 => f_X7_pass_L21 (z + 173) a1 k f (v2 + (if q < l.length then 1 else 0)) x20 σ19) 1100 cnt 0 rs ts (by omega) (by omega) hHR (by omega)
    rw [nI_0] at hh
    rw [f_X7_pass_L21, if_neg hle, hit, bd_n, hst, bd_n, lt_n, hh, lt_n, lt_n, wb_2, hN, wb_s, wi_wb, hF.1.2.1, ← h.1.2.1]
end SE
