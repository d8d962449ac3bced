/-! seconds that pass: second and parts answer 1 -/
theorem cntM_mono {a b : Nat → Int32} {m : Nat} {x : Int32} : ∀ n, (∀ i, i < n → a (8 + 20 * i + 5) = x → b (8 + 20 * i + 5) = x ∨ i = m) → cntM a x n ≤ cntM b x n + (if m < n then 1 else 0)
  | 0, _ => Nat.zero_le _
  | n + 1, h => by
    have ih := cntM_mono n (fun i hi => h i (by omega))
    rw [cntM_s, cntM_s]
    by_cases ha : a (8 + 20 * n + 5) = x
    · rw [if_pos ha]
      rcases h n (by omega) ha with hb | hb
      · rw [if_pos hb]
        by_cases hm : m < n
        · rw [if_pos hm] at ih
          rw [if_pos (Nat.lt_succ_of_lt hm)]
          omega
        · rw [if_neg hm] at ih
          by_cases hm' : m < n + 1
          · rw [if_pos hm']
            omega
          · rw [if_neg hm']
            omega
      · subst hb
        rw [if_neg (Nat.lt_irrefl _)] at ih
        rw [if_pos (Nat.lt_succ_self _)]
        omega
    · rw [if_neg ha]
      by_cases hm : m < n
      · rw [if_pos hm] at ih
        rw [if_pos (Nat.lt_succ_of_lt hm)]
        omega
      · rw [if_neg hm] at ih
        by_cases hm' : m < n + 1
        · rw [if_pos hm']
          omega
        · rw [if_neg hm']
          omega
theorem cntM_mono0 {a b : Nat → Int32} {x : Int32} : ∀ n, (∀ i, i < n → a (8 + 20 * i + 5) = x → b (8 + 20 * i + 5) = x) → cntM a x n ≤ cntM b x n
  | 0, _ => Nat.zero_le _
  | n + 1, h => by
    have ih := cntM_mono0 n (fun i hi => h i (by omega))
    rw [cntM_s, cntM_s]
    by_cases ha : a (8 + 20 * n + 5) = x
    · rw [if_pos ha, if_pos (h n (by omega) ha)]
      omega
    · rw [if_neg ha]
      omega
section PS
variable {r r' : Nat → Int32} {cnt ck t : Nat} {v : Int32}
theorem stR_far {l : List Nat} {q y : Nat} (hc : cnt ≤ 8) (hm : l.getD q 0 < 8) (h : 246 ≤ y) : stR r cnt l q y = r y := by
  unfold stR
  rw [noteR_o (by omega) (by omega), startR_o (by omega) (by omega) (by omega), piR_o cnt (fun x hx => by omega)]
theorem SC.far (h : SC cnt r r' v) (hc : cnt ≤ 8) : ∀ y, 246 ≤ y → r' y = r y := by
  obtain ⟨l, q, a1, a2, a3, a4, a5, a6⟩ := h
  intro y hy
  rw [a6, up_o _ _ (by omega), goF_far hy cnt 0 _ (by omega)]
  by_cases hlt : q < l.length
  · have hm := ((a1.mem _).mp (getD_mem hlt)).1
    rw [if_pos hlt, stR_far hc (by omega) hy]
  · rw [if_neg hlt]
def SCs (cnt : Nat) : Nat → (Nat → Int32) → (Nat → Int32) → Int32 → Prop
  | 0, r, r', v => r' = r ∧ v = 0
  | n + 1, r, r', v => ∃ r1 v1 v2, SC cnt r r1 v1 ∧ SCs cnt n r1 r' v2 ∧ v = v1 + v2
theorem SCs.det : ∀ n (r r1 r2 : Nat → Int32) (v1 v2 : Int32), SCs cnt n r r1 v1 → SCs cnt n r r2 v2 → r1 = r2 ∧ v1 = v2
  | 0, _, _, _, _, _, h1, h2 => ⟨h1.1.trans h2.1.symm, h1.2.trans h2.2.symm⟩
  | n + 1, r, r1, r2, v1, v2, h1, h2 => by
    obtain ⟨s1, a1, b1, c1, d1, e1⟩ := h1
    obtain ⟨s2, a2, b2, c2, d2, e2⟩ := h2
    obtain ⟨rfl, rfl⟩ := c1.det c2
    obtain ⟨rfl, rfl⟩ := SCs.det n _ _ _ _ _ d1 d2
    exact ⟨rfl, e1.trans e2.symm⟩
theorem SCs.add : ∀ a (b : Nat) (r r1 r2 : Nat → Int32) (v1 v2 : Int32), SCs cnt a r r1 v1 → SCs cnt b r1 r2 v2 → SCs cnt (a + b) r r2 (v1 + v2)
  | 0, b, r, r1, r2, v1, v2, h1, h2 => by
    obtain ⟨rfl, rfl⟩ := h1
    rw [Nat.zero_add, Int32.zero_add]
    exact h2
  | a + 1, b, r, r1, r2, v1, v2, h1, h2 => by
    obtain ⟨s1, a1, b1, c1, d1, e1⟩ := h1
    rw [show a + 1 + b = (a + b) + 1 by omega]
    exact ⟨s1, a1, b1 + v2, c1, SCs.add a b _ _ _ _ _ d1 h2, by rw [e1, Int32.add_assoc]⟩
theorem SCs.far (hc : cnt ≤ 8) : ∀ n (r r' : Nat → Int32) (v : Int32), SCs cnt n r r' v → ∀ y, 246 ≤ y → r' y = r y
  | 0, _, _, _, h => fun y _ => by rw [h.1]
  | n + 1, r, r', v, h => fun y hy => by
    obtain ⟨s1, a1, b1, c1, d1, e1⟩ := h
    rw [SCs.far hc n _ _ _ d1 y hy, c1.far hc y hy]
theorem ps_L {τ : bz_W} {z n : Nat} (hn : n ≤ 60) (hN : τ.2 (z + 173) 0 = z + 174) {K : Int32 → bz_W → Option (Int32 × bz_W)} : ∀ fuel m s (r : Nat → Int32) (ck t : Nat) (v0 : Int32), s + m = n → m < fuel → GF r cnt ck t → t + 9 * m < 2 ^ 30 → ck + m < 2 ^ 30 → ∃ r' v t', SCs cnt m r r' v ∧ GF r' cnt (ck + m) t' ∧ t' ≤ t + 9 * m ∧ f_X7_pass_L21 (z + 173) (nI n) K fuel v0 (nI s) (bz_wb τ (z + 174) r) = K (v0 + v) (bz_wb τ (z + 174) r') := by
  intro fuel
  induction fuel with
  | zero => intro m s r ck t v0 e hf; omega
  | succ f ih =>
    intro m s r ck t v0 e hf h ht hk
    match m, e, hf, ht, hk with
    | 0, e, hf, ht, hk =>
      refine ⟨r, 0, t, ⟨rfl, rfl⟩, h, by omega, ?_⟩
      rw [f_X7_pass_L21, if_pos (nI_le (by omega) (by omega)), Int32.add_zero]
    | m + 1, e, hf, ht, hk =>
      obtain ⟨r1, v1, t1, s1, g1, e1, f1⟩ := sec_ex h (by omega) (by omega)
      obtain ⟨r2, v2, t2, s2, g2, e2, f2⟩ := ih m (s + 1) r1 (ck + 1) t1 (v0 + v1) (by omega) (by omega) g1 (by omega) (by omega)
      refine ⟨r2, v1 + v2, t2, ⟨r1, v1, v2, s1, s2, rfl⟩, by rw [show ck + (m + 1) = ck + 1 + m by omega]; exact g2, by omega, ?_⟩
      rw [f1 hN (nI n) v0 (nI s) K f (nI_ge (by omega) (by omega)), nI_1, f2, Int32.add_assoc]
end PS
section PW
variable {z k i cnt ck t : Nat} {σ τ : bz_W}
theorem a_pass (h : WW z k σ τ) (hk : k < 512) (hg : GF (τ.1 (z + 174)) cnt ck t) {n : Nat} (h1 : 1 ≤ n) (h2 : n ≤ 60) (ht : t + 9 * n < 2 ^ 30) (hck : ck + n < 2 ^ 30) : ∃ σ1 τ1 v t', f_X6_pass σ z (nI n) = some (v, σ1) ∧ WW z (k + 1) σ1 τ1 ∧ SCs cnt n (τ.1 (z + 174)) (τ1.1 (z + 174)) v ∧ GF (τ1.1 (z + 174)) cnt (ck + n) t' ∧ t' ≤ t + 9 * n ∧ τ1.1 (z + 173) 4 = τ.1 (z + 173) 4 ∧ τ1.1 (z + 176) = τ.1 (z + 176) := by
  obtain ⟨nn, τ', hnn, hkk, g1, g2, g3⟩ := h.rec
  have hN := Rel.hN h.1
  obtain ⟨r', v, t', s1, s2, s3, s4⟩ := ps_L h2 g3 (K := fun (x21 : Int32) (σ22 : bz_W) => some (x21, σ22)) 1100 n 0 (τ.1 (z + 174)) ck t 0 (by omega) (by omega) hg ht hck
  rw [nI_0, Int32.zero_add] at s4
  have e : f_X7_pass (bz_wb τ (z + 174) (τ.1 (z + 174))) (z + 173) (nI n) = some (v, bz_wb τ' (z + 174) r') := by
    unfold f_X7_pass
    rw [m_in, bd_n, if_neg (show ¬ nI n < (1 : Int32) from nI_nlt (b := 1) h1 (by omega)), if_neg (show ¬ (60 : Int32) < nI n from nI_nlt (a := 60) (by omega) (by omega)), if_neg (by decide), g2, bd_n]
    exact s4
  rw [wb_id] at e
  have hsp : SP z τ (bz_wb τ' (z + 174) r') _ := ⟨τ', g1, rfl⟩
  obtain ⟨σ1, a1, a2⟩ := h.act (sm_pass h.1 hk (nI n)) e hsp s2.gr
  obtain ⟨t1, t2, t3, t4, t5, t6⟩ := hsp.tp (Rel.lm h.1) hnn hkk
  exact ⟨σ1, _, v, t', a1, a2, by rw [t1]; exact s1, by rw [t1]; exact s2, s3, t5, t6⟩
theorem lg0 (x : Int64) : lg_cmp x x = 0 := by
  unfold lg_cmp
  rw [if_neg (show ¬ x < x from Int64.lt_irrefl), if_pos rfl]
theorem l_parts (h : WW z k σ τ) (hk : k + 5 < 512) (hg : GF (τ.1 (z + 174)) cnt ck t) {a b : Nat} (ha : 1 ≤ a ∧ a ≤ 9) (hb : 1 ≤ b ∧ b ≤ 9) (ht : t + 200 < 2 ^ 30) (hck : ck + 20 < 2 ^ 30) : ∃ σ1 τ1, f_L_parts σ z (nI a) (nI b) = some (1, σ1) ∧ WW z (k + 5) σ1 τ1 := by
  have w := h.wr2 (by omega) hg
  obtain ⟨σ1, τ1, e1, h1, r1, f1, p1⟩ := ww_keep h (by omega)
  have g1 : GF (τ1.1 (z + 174)) cnt ck t := by rw [r1]; exact hg
  obtain ⟨σ2, τ2, v, t2, e2, h2, s2, g2, -, f2, p2⟩ := a_pass h1 (by omega) g1 (n := a + b) (by omega) (by omega) (by omega) (by omega)
  have w2 := h2.wr2 (by omega) g2
  obtain ⟨σ3, τ3, e3, h3, r3, r3f⟩ := ww_restore h2 (by omega) (f2.trans f1)
  have hrow : τ3.1 (z + 174) = τ.1 (z + 174) := by
    funext x
    by_cases hx : x < 246
    · rw [r3 x hx, p2, p1 x hx]
    · rw [r3f x (by omega), SCs.far hg.1.2.2.2.1 _ _ _ _ s2 x (by omega), r1]
  have g3 : GF (τ3.1 (z + 174)) cnt ck t := by rw [hrow]; exact hg
  obtain ⟨σ4, τ4, v1, t4, e4, h4, s4, g4, l4, -⟩ := a_pass h3 (by omega) g3 (n := a) (by omega) (by omega) (by omega) (by omega)
  obtain ⟨σ5, τ5, v2, t5, e5, h5, s5, g5, -⟩ := a_pass h4 (by omega) g4 (n := b) (by omega) (by omega) (by omega) (by omega)
  have w5 := h5.wr2 (by omega) g5
  have sab := SCs.add a b _ _ _ _ _ s4 s5
  rw [hrow] at sab
  rw [r1] at s2
  obtain ⟨er, ev⟩ := SCs.det _ _ _ _ _ _ s2 sab
  refine ⟨σ5, τ5, ?_, h5⟩
  have em : cntV (τ.1 (z + 174)) cnt (τ.1 (z + 173) 5) (τ.1 (z + 173) 2) 5 = τ.1 (z + 174) 1 := rfl
  unfold f_L_parts
  rw [rd_count w (x := 5) 5 (by omega) rfl, bd_n, em, e1, bd_n, if_pos rfl, nI_add, e2, bd_n, l_dig w2, bd_n, e3, bd_n, if_pos (show τ2.1 (z + 176) 1 = τ.1 (z + 174) 1 by rw [p2, p1 1 (by omega)]), e4, bd_n, e5, bd_n, if_pos ev.symm, l_dig w5, bd_n, er, lg0, if_pos rfl]
theorem se_L8 {l : List Nat} (hl : LineOK (τ.1 (z + 174)) cnt l) {q : Nat} (hq : q ≤ l.length) (hb : ∀ p, p < q → ¬ agR (τ.1 (z + 174)) cnt (l.getD p 0) = 0) (hz : q < l.length → agR (τ.1 (z + 174)) cnt (l.getD q 0) = 0) {K : Int32 → Int32 → bz_W → Option (Int32 × bz_W)} : ∀ fuel p (σ : bz_W), WR z k cnt ck t σ τ → p ≤ q → q - p < fuel → ∃ g, f_L_second_L8 z K fuel (nI p) (wv l p) σ = K (nI q) (wv l q) (bz_wb σ (z + 172) g) := by
  intro fuel
  induction fuel with
  | zero => intro p σ h hp hf; omega
  | succ f ih =>
    intro p σ h hp hf
    have hc := h.2.2.2.2.2.1
    have hlen := hl.len
    rw [f_L_second_L8]
    by_cases hpl : p < l.length
    · have hm := (hl.mem _).mp (getD_mem hpl)
      have ev : wv l p = nI (l.getD p 0) := by unfold wv; rw [if_pos hpl]
      have hw5 : τ.1 (z + 174) (8 + 20 * l.getD p 0 + 5) = 1 := of_decide_eq_true hm.2
      rw [ev, if_neg (nI_pos (by omega)), rd_why h hm.1, bd_n, if_pos hw5]
      by_cases e : p = q
      · subst e
        rw [if_pos (hz hpl), ev]
        exact ⟨σ.1 (z + 172), by rw [wb_id]⟩
      · obtain ⟨g1, e1⟩ := rd_queue h hl (x := nI (p + 1)) (p + 1) (by omega) rfl
        rw [if_neg (hb p (by omega)), lt_n, nI_1, e1, bd_n]
        obtain ⟨g, eg⟩ := ih (p + 1) (bz_wb σ (z + 172) g1) (h.wb (n := z + 172) (by omega) g1) (by omega) (by omega)
        exact ⟨g, by rw [eg, wb_wb]⟩
    · have e : p = q := by omega
      subst e
      have ev : wv l p = -4 := by unfold wv; rw [if_neg hpl]
      rw [ev, if_pos (by decide)]
      exact ⟨σ.1 (z + 172), by rw [wb_id]⟩
set_option maxHeartbeats 1000000 in
theorem l_second (h : WW z k σ τ) (hk : k + 1 < 512) (hg : GF (τ.1 (z + 174)) cnt ck t) (ht : t + 9 < 2 ^ 30) (hck : ck + 1 < 2 ^ 30) : ∃ σ1 τ1, f_L_second σ z = some (1, σ1) ∧ WW z (k + 1) σ1 τ1 := by
  have w := h.wr2 (by omega) hg
  have hc := hg.1.2.2.2.1
  obtain ⟨l, hl⟩ := w.line
  have hlen := hl.len
  obtain ⟨q, q1, q2⟩ := pk_least (fun p => p = l.length ∨ (p < l.length ∧ agR (τ.1 (z + 174)) cnt (l.getD p 0) = 0)) ⟨l.length, Or.inl rfl⟩
  have hq : q ≤ l.length := by rcases q1 with q1 | q1 <;> omega
  have hb : ∀ p, p < q → ¬ agR (τ.1 (z + 174)) cnt (l.getD p 0) = 0 := fun p hp e => q2 p hp (Or.inr ⟨by omega, e⟩)
  have hz : q < l.length → agR (τ.1 (z + 174)) cnt (l.getD q 0) = 0 := fun hlt => by
    rcases q1 with q1 | q1
    · omega
    · exact q1.2
  obtain ⟨g0, e0⟩ := rd_queue w hl (x := 0) 0 (by omega) rfl
  have w0 := w.wb (n := z + 172) (by omega) g0
  unfold f_L_second
  rw [e0, bd_n]
  obtain ⟨g1, e1⟩ := se_L8 hl hq hb hz (K := fun (x10 : Int32) (x11 : Int32) (σ12 : bz_W) => bd_ (f_X6_count σ12 z 5) fun r13 σ14 => lt_ (fun (y15 : Int32) (σ16 : bz_W) => (bd_ (f_L_passedOver σ16 z) fun r18 σ19 => bd_ (f_X6_count σ19 z 2) fun r20 σ21 => bd_ (f_X6_pass σ21 z 1) fun r22 σ23 => lt_ (fun (y24 : Int32) (σ25 : bz_W) => (if r22 = y24 then bd_ (f_X6_count σ25 z 5) fun r28 σ29 => if r28 = (r13 + 1) then bd_ (f_L_passedOver σ29 z) fun r31 σ32 => lt_ (fun (y33 : Int32) (σ34 : bz_W) => (if r31 = (r18 + y33) then lt_ (fun (σ37 : bz_W) => (bd_ (f_X6_count σ37 z 2) fun r39 σ40 => if (r20 + r22) < r39 then some (0, σ40) else some (1, σ40) : Option (Int32 × bz_W))) fun j38 => if x11 < 0 then j38 σ34 else bd_ (f_X6_account σ34 z x11 2) fun r43 σ44 => if r43 = (y15 + 1) then j38 σ44 else some (0, σ44) else some (0, σ34) : Option (Int32 × bz_W))) fun j35 => if 0 ≤ x11 then j35 x10 σ32 else j35 0 σ32 else some (0, σ29) else some (0, σ25) : Option (Int32 × bz_W))) fun j26 => if 0 ≤ x11 then j26 1 σ23 else j26 0 σ23 : Option (Int32 × bz_W))) fun j17 => if 0 ≤ x11 then bd_ (f_X6_account σ14 z x11 2) fun r49 σ50 => j17 r49 σ50 else j17 0 σ14) 1100 0 (bz_wb σ (z + 172) g0) w0 (by omega) (by omega)
  obtain ⟨s0, es0⟩ : ∃ s, s = bz_wb (bz_wb σ (z + 172) g0) (z + 172) g1 := ⟨_, rfl⟩
  have ws := w0.wb (n := z + 172) (by omega) g1
  rw [← es0] at e1 ws
  have hs : WW z k s0 τ := ⟨ws.1, h.2⟩
  obtain ⟨σ2, τ2, v, t2, e2, h2, s2, g2, -⟩ := a_pass hs (by omega) hg (n := 1) (by omega) (by omega) (by omega) (by omega)
  have w2 := h2.wr2 (by omega) g2
  refine ⟨σ2, τ2, ?_, h2⟩
  refine e1.trans ?_
  -- what the second did
  obtain ⟨r1, v1, v2, sc, ⟨er, ev2⟩, ev⟩ := s2
  rw [ev2, Int32.add_zero] at ev
  obtain ⟨l', q', b1, b2, b3, b4, b5, b6⟩ := sc
  obtain rfl := hl.uniq b1
  have eq' : q = q' := by
    rcases Nat.lt_trichotomy q q' with g | g | g
    · exact absurd (hz (by omega)) (b3 q g)
    · exact g
    · exact absurd (b4 (by omega)) (hb q' g)
  subst eq'
  rw [← er] at b6
  rw [← ev] at b5
  have c5 : cntV (τ.1 (z + 174)) cnt (τ.1 (z + 173) 5) (τ.1 (z + 173) 2) 5 = nI ck := hg.1.2.1
  have c5' : cntV (τ2.1 (z + 174)) cnt (τ2.1 (z + 173) 5) (τ2.1 (z + 173) 2) 5 = nI (ck + 1) := g2.1.2.1
  have c2 : cntV (τ.1 (z + 174)) cnt (τ.1 (z + 173) 5) (τ.1 (z + 173) 2) 2 = nI (cntM (τ.1 (z + 174)) 2 cnt) := fsum_cnt _ _ _
  have c2' : cntV (τ2.1 (z + 174)) cnt (τ2.1 (z + 173) 5) (τ2.1 (z + 173) 2) 2 = nI (cntM (τ2.1 (z + 174)) 2 cnt) := fsum_cnt _ _ _
  have m1 := cntM_le (τ.1 (z + 174)) 2 cnt
  have m2 := cntM_le (τ2.1 (z + 174)) 2 cnt
  rw [rd_count ws (x := 5) 5 (by omega) rfl, bd_n, c5]
  by_cases hlt : q < l.length
  · have hm := (hl.mem _).mp (getD_mem hlt)
    obtain ⟨m, em⟩ : ∃ m, m = l.getD q 0 := ⟨_, rfl⟩
    rw [← em] at hm
    have ew : wv l q = nI m := by unfold wv; rw [if_pos hlt, ← em]
    rw [if_pos hlt] at b5 b6
    have hge : (0 : Int32) ≤ nI m := Int32.not_lt.mp (nI_pos (by omega))
    -- passed over
    have e18 : fsum (fun i => τ2.1 (z + 174) (8 + 20 * i + 18)) cnt = fsum (fun i => τ.1 (z + 174) (8 + 20 * i + 18)) cnt + nI q := by
      have eq18 := fsum_pi (τ.1 (z + 174)) (fun x => wtB (τ.1 (z + 174)) x && decide (pcnt (τ.1 (z + 174)) x cnt < q)) cnt cnt (Nat.le_refl _)
      rw [LineOK.ahead hl hq] at eq18
      rw [← eq18]
      refine fsum_congr cnt (fun j hj => ?_)
      rw [b6, up_o _ _ (by omega), goF_o (by omega) (by omega) cnt 0 _ (fun a b h1 h2 h3 h4 => by omega)]
      unfold stR
      rw [noteR_o (by omega) (by omega), startR_o (by omega) (by omega) (by omega)]
    have e14 : τ2.1 (z + 174) (8 + 20 * m + (12 + 2)) = τ.1 (z + 174) (8 + 20 * m + (12 + 2)) + 1 := by
      rw [b6, up_o _ _ (by omega), goF_o (by omega) (by omega) cnt 0 _ (fun a b h1 h2 h3 h4 => by omega)]
      unfold stR
      rw [noteR_o (by omega) (by omega), ← em]
      unfold startR
      rw [show 8 + 20 * m + (12 + 2) = 8 + 20 * m + 14 by omega, up_s, piR_o cnt (fun x hx => by omega)]
    have e2m : cntM (τ2.1 (z + 174)) 2 cnt ≤ cntM (τ.1 (z + 174)) 2 cnt + 1 := by
      have := cntM_mono (a := τ2.1 (z + 174)) (b := τ.1 (z + 174)) (m := m) (x := 2) cnt (fun j hj h2 => by
        rw [b6, up_o _ _ (by omega)] at h2
        have h3 := goF_mode (show j < 8 by omega) cnt 0 _ (by omega) h2
        unfold stR at h3
        rw [noteR_o (by omega) (by omega), ← em] at h3
        by_cases e : j = m
        · exact Or.inr e
        · rw [startR_o (by omega) (by omega) (by omega), piR_o cnt (fun x hx => by omega)] at h3
          exact Or.inl h3)
      rw [if_pos hm.1] at this
      exact this
    rw [ew, rd_account ws (x := 2) hm.1 2 (by omega) rfl]
    simp only [bd_n]
    rw [lt_n, if_pos hge]
    try dsimp only
    rw [l_over ws, bd_n, rd_count ws (x := 2) 2 (by omega) rfl, bd_n, c2, show f_X6_pass s0 z 1 = some (v, σ2) from e2, bd_n, lt_if]
    try dsimp only
    rw [if_pos hge, if_pos b5, rd_count w2 (x := 5) 5 (by omega) rfl, bd_n, c5', if_pos (nI_1 ck).symm, l_over w2, bd_n, lt_if]
    try dsimp only
    rw [if_pos hge, if_pos e18, lt_n, if_neg (nI_pos (by omega)), rd_account w2 (x := 2) hm.1 2 (by omega) rfl, bd_n, if_pos e14]
    try dsimp only
    rw [rd_count w2 (x := 2) 2 (by omega) rfl, bd_n, c2', b5, nI_1, if_neg (nI_nlt e2m (by omega))]
  · have eql : q = l.length := by omega
    have ew : wv l q = -4 := by unfold wv; rw [if_neg hlt]
    rw [if_neg hlt] at b5 b6
    have e18 : fsum (fun i => τ2.1 (z + 174) (8 + 20 * i + 18)) cnt = fsum (fun i => τ.1 (z + 174) (8 + 20 * i + 18)) cnt + 0 := by
      rw [Int32.add_zero]
      refine fsum_congr cnt (fun j hj => ?_)
      rw [b6, up_o _ _ (by omega), goF_o (by omega) (by omega) cnt 0 _ (fun a b h1 h2 h3 h4 => by omega)]
    have e2m : cntM (τ2.1 (z + 174)) 2 cnt ≤ cntM (τ.1 (z + 174)) 2 cnt := cntM_mono0 cnt (fun j hj h2 => by
      rw [b6, up_o _ _ (by omega)] at h2
      exact goF_mode (show j < 8 by omega) cnt 0 _ (by omega) h2)
    have hng : ¬ (0 : Int32) ≤ -4 := by decide
    rw [ew, lt_n, if_neg hng]
    try dsimp only
    rw [l_over ws, bd_n, rd_count ws (x := 2) 2 (by omega) rfl, bd_n, c2, show f_X6_pass s0 z 1 = some (v, σ2) from e2, bd_n, lt_if]
    try dsimp only
    rw [if_neg hng, if_pos b5, rd_count w2 (x := 5) 5 (by omega) rfl, bd_n, c5', if_pos (nI_1 ck).symm, l_over w2, bd_n, lt_if]
    try dsimp only
    rw [if_neg hng, if_pos e18, lt_n, if_pos (by decide)]
    try dsimp only
    rw [rd_count w2 (x := 2) 2 (by omega) rfl, bd_n, c2', b5, Int32.add_zero, if_neg (nI_nlt e2m (by omega))]
end PW
