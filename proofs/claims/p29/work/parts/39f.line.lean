/-! the line of waiting motors: the class's list, the model's counts -/
def ins (j : Nat) : List Nat → Nat → List Nat
  | l, 0 => j :: l
  | [], _ + 1 => [j]
  | x :: l, w + 1 => x :: ins j l w
theorem ins_len (j : Nat) : ∀ (l : List Nat) (w : Nat), (ins j l w).length = l.length + 1
  | [], 0 => rfl
  | _ :: _, 0 => rfl
  | [], _ + 1 => rfl
  | x :: l, w + 1 => by
    unfold ins
    rw [List.length_cons, ins_len j l w, List.length_cons]
theorem ins_getD (j : Nat) : ∀ (l : List Nat) (w : Nat), w ≤ l.length → ∀ p, (ins j l w).getD p 0 = if p < w then l.getD p 0 else if p = w then j else l.getD (p - 1) 0
  | l, 0, _, p => by
    cases p with
    | zero => cases l <;> rfl
    | succ p => cases l <;> simp [ins]
  | [], w + 1, h, p => by simp at h
  | x :: l, w + 1, h, p => by
    unfold ins
    cases p with
    | zero => simp
    | succ p =>
      have := ins_getD j l w (by simpa using h) p
      simp only [List.getD_cons_succ]
      rw [this]
      by_cases h1 : p < w
      · rw [if_pos h1, if_pos (show p + 1 < w + 1 by omega)]
      · rw [if_neg h1, if_neg (show ¬ p + 1 < w + 1 by omega)]
        by_cases h2 : p = w
        · rw [if_pos h2, if_pos (show p + 1 = w + 1 by omega)]
        · rw [if_neg h2, if_neg (show ¬ p + 1 = w + 1 by omega)]
          obtain ⟨q, rfl⟩ : ∃ q, p = q + 1 := ⟨p - 1, by omega⟩
          rfl
theorem ins_perm (j : Nat) : ∀ (l : List Nat) (w : Nat), (ins j l w).Perm (j :: l)
  | [], 0 => List.Perm.refl _
  | _ :: _, 0 => List.Perm.refl _
  | [], _ + 1 => List.Perm.refl _
  | x :: l, w + 1 => ((ins_perm j l w).cons x).trans (List.Perm.swap j x l)
theorem mem_getD {l : List Nat} {y : Nat} (h : y ∈ l) : ∃ p, p < l.length ∧ l.getD p 0 = y := by
  obtain ⟨p, hp, e⟩ := List.mem_iff_getElem.mp h
  exact ⟨p, hp, by rw [← e]; simp [List.getD, hp]⟩
theorem getD_mem {l : List Nat} {p : Nat} (h : p < l.length) : l.getD p 0 ∈ l := by
  have : l.getD p 0 = l[p] := by simp [List.getD, h]
  rw [this]
  exact List.getElem_mem h
theorem ins_pair {R : Nat → Nat → Prop} (j : Nat) : ∀ (l : List Nat) (w : Nat), l.Pairwise R → (∀ p, p < w → p < l.length → R (l.getD p 0) j) → (∀ p, w ≤ p → p < l.length → R j (l.getD p 0)) → (ins j l w).Pairwise R
  | l, 0, h, _, h2 => by
    have : ins j l 0 = j :: l := by cases l <;> rfl
    rw [this]
    refine List.Pairwise.cons (fun y hy => ?_) h
    obtain ⟨p, hp, e⟩ := mem_getD hy
    rw [← e]
    exact h2 p (Nat.zero_le _) hp
  | [], _ + 1, _, _, _ => List.Pairwise.cons (fun y hy => by cases hy) List.Pairwise.nil
  | x :: l, w + 1, h, h1, h2 => by
    cases h with
    | cons hx hl =>
      refine List.Pairwise.cons (fun y hy => ?_) (ins_pair j l w hl (fun p hp hq => h1 (p + 1) (by omega) (by simpa using hq)) (fun p hp hq => h2 (p + 1) (by omega) (by simpa using hq)))
      have := (ins_perm j l w).mem_iff.mp hy
      rcases List.mem_cons.mp this with e | e
      · rw [e]
        exact h1 0 (by omega) (by simp)
      · exact hx y e
theorem pair_getD {R : Nat → Nat → Prop} : ∀ (l : List Nat), l.Pairwise R → ∀ p q, p < q → q < l.length → R (l.getD p 0) (l.getD q 0)
  | [], _, p, q, _, hq => absurd hq (Nat.not_lt_zero _)
  | x :: l, h, p, q, hpq, hq => by
    cases h with
    | cons hx hl =>
      obtain ⟨q', rfl⟩ : ∃ q', q = q' + 1 := ⟨q - 1, by omega⟩
      cases p with
      | zero => exact hx _ (getD_mem (by simpa using hq))
      | succ p => exact pair_getD l hl p q' (by omega) (by simpa using hq)
def LineOK (r : Nat → Int32) (j : Nat) (l : List Nat) : Prop := l.Perm ((List.range j).filter (wtB r)) ∧ l.Pairwise (fun x y => ahB r x y = true)
theorem LineOK.mem {r : Nat → Int32} {j : Nat} {l : List Nat} (h : LineOK r j l) (x : Nat) : x ∈ l ↔ x < j ∧ wtB r x = true := by
  rw [h.1.mem_iff, List.mem_filter, List.mem_range]
theorem LineOK.len {r : Nat → Int32} {j : Nat} {l : List Nat} (h : LineOK r j l) : l.length ≤ j := by
  rw [h.1.length_eq]
  have := List.length_filter_le (wtB r) (List.range j)
  rw [List.length_range] at this
  exact this
theorem ahB_false {r : Nat → Int32} {i j : Nat} (h : ah r i j) : ahB r j i = false := by
  cases e : ahB r j i with
  | false => rfl
  | true => exact absurd (ahB_iff.mp e) (ah_asym h)
theorem pcnt_count (r : Nat → Int32) (m : Nat) : ∀ n, pcnt r m n = ((List.range n).filter (wtB r)).countP (fun x => ahB r x m)
  | 0 => rfl
  | n + 1 => by
    unfold pcnt
    rw [pcnt_count r m n, List.range_succ, List.filter_append, List.countP_append]
    congr 1
    by_cases hw : wtB r n = true
    · rw [List.filter_cons_of_pos hw, List.filter_nil]
      by_cases ha : ahB r n m = true
      · have hne : n ≠ m := fun e => by
          rw [e] at ha
          exact ah_irr r m (ahB_iff.mp ha)
        rw [if_pos ⟨hne, hw, ha⟩]
        simp [ha]
      · rw [if_neg (fun q => ha q.2.2)]
        simp [ha]
    · rw [List.filter_cons_of_neg hw, List.filter_nil, if_neg (fun q => hw q.2.1)]
      rfl
theorem count_at (r : Nat → Int32) : ∀ (l : List Nat), l.Pairwise (fun x y => ahB r x y = true) → ∀ p, p < l.length → l.countP (fun x => ahB r x (l.getD p 0)) = p
  | [], _, p, hp => absurd hp (Nat.not_lt_zero _)
  | x :: l, h, p, hp => by
    cases h with
    | cons hx hl =>
      cases p with
      | zero =>
        have e : (x :: l).getD 0 0 = x := rfl
        rw [e, List.countP_eq_zero]
        intro y hy
        rcases List.mem_cons.mp hy with q | q
        · rw [q]
          intro c
          exact ah_irr r x (ahB_iff.mp c)
        · intro c
          exact ah_asym (ahB_iff.mp (hx y q)) (ahB_iff.mp c)
      | succ p =>
        have e : (x :: l).getD (p + 1) 0 = l.getD p 0 := by simp
        have hp' : p < l.length := by simpa using hp
        have hh : ahB r x (l.getD p 0) = true := hx _ (getD_mem hp')
        rw [e, List.countP_cons, count_at r l hl p hp']
        simp only [hh, if_true]
theorem LineOK.place {r : Nat → Int32} {n : Nat} {l : List Nat} (h : LineOK r n l) {p : Nat} (hp : p < l.length) : pcnt r (l.getD p 0) n = p := by
  rw [pcnt_count, ← h.1.countP_eq, count_at r l h.2 p hp]
theorem NW.line {σ : bz_W} {z cnt ck t sz nx : Nat} {r : Nat → Int32} (h : NW z σ r cnt ck t sz nx) (f : Nat → Int32) : Fr z σ (bz_wb σ (z + 172) f) ∧ (bz_wb σ (z + 172) f).1 z 7 = σ.1 z 7 ∧ NW z (bz_wb σ (z + 172) f) r cnt ck t sz nx := by
  have hF : Fr z σ (bz_wb σ (z + 172) f) := ⟨rfl, fun x h1 h2 => wb_o _ _ h2, fun w hw => by rw [wb_o _ _ (by omega)], fun i hi => by rw [wb_o _ _ (by omega)]⟩
  exact ⟨hF, by rw [wb_o _ _ (by omega)], h.next hF (h.2.2.2.1.keep h.2.2.2.2.1.1 fun x h1 h2 => wb_o _ _ (by omega)) h.2.2.2.2.1⟩
def shf (f : Nat → Int32) (v n : Nat) : Nat → Int32 := fun y => if v < y ∧ y ≤ n then f (y - 1) else f y
theorem shf_n (f : Nat → Int32) (n : Nat) : shf f n n = f := by
  funext y
  have : ¬ (n < y ∧ y ≤ n) := by omega
  simp only [shf, if_neg this]
theorem shf_s (f : Nat → Int32) {u n : Nat} (h : u + 1 ≤ n) : upd (shf f (u + 1) n) (u + 1) (f u) = shf f u n := by
  funext y
  by_cases hy : y = u + 1
  · subst hy
    have : u < u + 1 ∧ u + 1 ≤ n := by omega
    rw [up_s]
    simp only [shf, if_pos this, Nat.add_sub_cancel]
  · rw [up_o _ _ hy]
    by_cases h1 : u + 1 < y ∧ y ≤ n
    · have h2 : u < y ∧ y ≤ n := by omega
      simp only [shf, if_pos h1, if_pos h2]
    · have h2 : ¬ (u < y ∧ y ≤ n) := by omega
      simp only [shf, if_neg h1, if_neg h2]
section FL
variable {σ : bz_W} {z cnt ck t sz nx : Nat} {r : Nat → Int32}
theorem NW.ahead (h : NW z σ r cnt ck t sz nx) {i j : Nat} (hi : i < cnt) (hj : j < cnt) : f_X3_isAhead σ (z + 1) (nI i) (nI j) = some (if ahB r i j = true then 1 else 0, σ) := c_ahead h.2.1 h.2.2.2.1 h.2.2.2.2.1 hi hj
theorem fl_in (h : NW z σ r cnt ck t sz nx) {l : List Nat} {n j : Nat} (hl : l.length = n) (hn : n < 8) (hlt : ∀ x, x ∈ l → x < cnt) {f0 : Nat → Int32} (hf : ∀ p, p < n → f0 p = nI (l.getD p 0)) (hj : j < cnt) {k : Int32 → bz_W → Option (Int32 × bz_W)} : ∀ fuel v, v ≤ n → v < fuel → (∀ p, v ≤ p → p < n → ahB r j (l.getD p 0) = true) → ∃ w, w ≤ n ∧ f_X6_fillLine_L33 z (nI n) (nI j) k fuel (nI v) (bz_wb σ (z + 172) (shf f0 v n)) = k (nI w) (bz_wb σ (z + 172) (shf f0 w n)) ∧ (∀ p, w ≤ p → p < n → ahB r j (l.getD p 0) = true) ∧ (0 < w → ¬ ahB r j (l.getD (w - 1) 0) = true) := by
  intro fuel
  induction fuel with
  | zero => intro v h1 h2; omega
  | succ f ih =>
    intro v h1 h2 h3
    rw [f_X6_fillLine_L33]
    by_cases hv : v = 0
    · subst hv
      rw [if_pos (show nI 0 ≤ (0 : Int32) from by decide)]
      exact ⟨0, by omega, rfl, h3, fun q => absurd q (Nat.lt_irrefl _)⟩
    · obtain ⟨u, rfl⟩ : ∃ u, v = u + 1 := ⟨v - 1, by omega⟩
      have hN := (h.line (shf f0 (u + 1) n)).2.2
      have es : shf f0 (u + 1) n u = nI (l.getD u 0) := by
        have : ¬ (u + 1 < u ∧ u ≤ n) := by omega
        simp only [shf, if_neg this]
        exact hf u (by omega)
      rw [if_neg (nI_nle (by omega) (by omega)), nI_pred, in_nI (by omega) (by omega), ck_n, nI_clamp (by omega), hN.2.2.2.2.2.1, hN.2.2.2.2.2.2, wb_s, es, hN.ahead hj (hlt _ (getD_mem (by omega))), bd_n]
      by_cases ha : ahB r j (l.getD u 0) = true
      · rw [if_pos ha, if_neg (by decide), ck_n, in_nI (by omega) (by omega), ck_n, lt_n, lt_n, pk_m1, hN.2.2.2.2.2.2, nI_clamp (by omega), wi_wb, wb_s, es, ← hf u (by omega), shf_s _ h1]
        refine ih u (by omega) (by omega) fun p hp hq => ?_
        by_cases e : p = u
        · subst e; exact ha
        · exact h3 p (by omega) hq
      · rw [if_neg ha, if_pos rfl]
        exact ⟨u + 1, h1, rfl, h3, fun _ => ha⟩
theorem fl_out (h : NW z σ r cnt ck t sz nx) : ∀ fuel j (l : List Nat) (f0 : Nat → Int32), j ≤ cnt → cnt - j < fuel → LineOK r j l → (∀ p, p < l.length → f0 p = nI (l.getD p 0)) → ∃ f' l', f_X6_fillLine_L4 z (fun (x31 : Int32) (σ32 : bz_W) => some (x31, σ32)) fuel (nI l.length) (nI j) (bz_wb σ (z + 172) f0) = some (nI l'.length, bz_wb σ (z + 172) f') ∧ LineOK r cnt l' ∧ ∀ p, p < l'.length → f' p = nI (l'.getD p 0) := by
  have hc := h.2.2.2.2.1.1
  intro fuel
  induction fuel with
  | zero => intro j l f0 h1 h2; omega
  | succ f ih =>
    intro j l f0 h1 h2 h3 h4
    have hN := (h.line f0).2.2
    have hlen := h3.len
    rw [f_X6_fillLine_L4, hN.2.2.2.2.2.1, hN.2.2.2.1.1.1]
    by_cases hjn : j = cnt
    · subst hjn
      rw [if_pos (nI_le (Nat.le_refl _) (by omega))]
      exact ⟨f0, l, rfl, h3, h4⟩
    · have hjc : j < cnt := by omega
      rw [if_neg (nI_ge (by omega) (by omega)), in_nI (by omega) (by omega), ck_n, lt_n, nI_clamp (by omega), hN.2.1.1, (hN.2.1.2.2.2.1 j (by omega)).1, ← (hN.2.2.2.1.2.2.2.2.2.1 j hjc).2.2.2.2.2.1]
      by_cases hw : r (8 + 20 * j + 5) = 1
      · have hwt : wtB r j = true := by simp [wtB, hw]
        rw [if_pos hw]
        have hin := fl_in h (l := l) (n := l.length) (j := j) rfl (by omega) (fun x hx => by have := (h3.mem x).mp hx; omega) h4 hjc (k := (fun (x25 : Int32) (σ26 : bz_W) => ck_ (in_ x25 8) (lt_ (bz_wi σ26 (σ26.2 z 6) x25.toNatClampNeg (nI j)) fun σ29 => lt_ (nI l.length + 1) fun x30 => (fun (x7 : Int32) (σ8 : bz_W) => lt_ (nI j + 1) fun x10 => f_X6_fillLine_L4 z (fun (x31 : Int32) (σ32 : bz_W) => some (x31, σ32)) f x7 x10 σ8) x30 σ29))) 1100 l.length (Nat.le_refl _) (by omega) (fun p hp hq => absurd hq (by omega))
        obtain ⟨w, w1, w2, w3, w4⟩ := hin
        rw [shf_n] at w2
        rw [w2]
        have hN2 := (h.line (shf f0 w l.length)).2.2
        rw [in_nI (by omega) (by omega), ck_n, lt_n, lt_n, nI_clamp (by omega), hN2.2.2.2.2.2.2, wi_wb, nI_1]
        dsimp only
        rw [lt_n, nI_1, ← ins_len j l w]
        have hnj : ∀ x, x ∈ l → x ≠ j := fun x hx => by have := (h3.mem x).mp hx; omega
        have hup : ∀ p, p < w → p < l.length → ahB r (l.getD p 0) j = true := fun p hp hq => by
          have hw1 : ¬ ahB r j (l.getD (w - 1) 0) = true := w4 (by omega)
          have a1 : ah r (l.getD (w - 1) 0) j := by
            rcases ah_total r (hnj _ (getD_mem (show w - 1 < l.length by omega))) with q | q
            · exact q
            · exact absurd (ahB_iff.mpr q) hw1
          by_cases e : p = w - 1
          · rw [e]; exact ahB_iff.mpr a1
          · exact ahB_iff.mpr (ah_trans (ahB_iff.mp (pair_getD l h3.2 p (w - 1) (by omega) (by omega))) a1)
        refine ih (j + 1) (ins j l w) _ (by omega) (by omega) ⟨?_, ins_pair j l w h3.2 hup w3⟩ fun p hp => ?_
        · rw [List.range_succ, List.filter_append, List.filter_cons_of_pos hwt, List.filter_nil]
          exact (ins_perm j l w).trans ((h3.1.cons j).trans (List.perm_append_comm (l₁ := [j])))
        · rw [ins_len] at hp
          rw [ins_getD j l w w1]
          by_cases e1 : p < w
          · have : ¬ (w < p ∧ p ≤ l.length) := by omega
            rw [if_pos e1, up_o _ _ (by omega)]
            simp only [shf, if_neg this]
            exact h4 p (by omega)
          · rw [if_neg e1]
            by_cases e2 : p = w
            · rw [if_pos e2, e2, up_s]
            · have : w < p ∧ p ≤ l.length := by omega
              rw [if_neg e2, up_o _ _ e2]
              simp only [shf, if_pos this]
              exact h4 (p - 1) (by omega)
      · have hwt : ¬ wtB r j = true := by simp [wtB, hw]
        rw [if_neg hw]
        dsimp only
        rw [lt_n, nI_1]
        refine ih (j + 1) l f0 (by omega) (by omega) ⟨?_, h3.2⟩ h4
        rw [List.range_succ, List.filter_append, List.filter_cons_of_neg hwt, List.filter_nil, List.append_nil]
        exact h3.1
theorem c_fill (h : NW z σ r cnt ck t sz nx) : ∃ f' l, f_X6_fillLine σ z = some (nI l.length, bz_wb σ (z + 172) f') ∧ LineOK r cnt l ∧ ∀ p, p < l.length → f' p = nI (l.getD p 0) := by
  have := fl_out h 1100 0 [] (σ.1 (z + 172)) (Nat.zero_le _) (by have := h.2.2.2.2.1.1; omega) ⟨List.Perm.refl _, List.Pairwise.nil⟩ (fun p hp => absurd hp (Nat.not_lt_zero _))
  rw [wb_id] at this
  exact this
end FL
theorem sm_queue {z k : Nat} {σ τ : bz_W} (h : bz_Rel z k σ τ) (hk : k < 512) (x1 : Int32) : ∃ v σ1 τ1, f_X6_queue σ z x1 = some (v, σ1) ∧ f_X7_queue τ (z + 173) x1 = some (v, τ1) ∧ bz_Rel z (k + 1) σ1 τ1 := by
  obtain ⟨cnt, ck, t, sz, nx, hw, hN, a1, hr, hck, htt⟩ := Rel.nw h
  have hI := hw.2.2.2.2.1
  have ew : τ = bz_wb τ (z + 174) (τ.1 (z + 174)) := (wb_id τ (z + 174)).symm
  unfold f_X6_queue f_X7_queue
  by_cases h0 : 0 ≤ x1
  · obtain ⟨p, hp, rfl⟩ := nI_of (Int32.not_lt.mpr h0)
    rw [if_pos h0, if_pos h0]
    obtain ⟨f', l, g1, g2, g3⟩ := c_fill hw
    have hlen := g2.len
    have hc := hI.1
    obtain ⟨k1, k2, k3⟩ := hw.line f'
    have hrel : bz_Rel z (k + 1) (bz_wb σ (z + 172) f') τ := sm_idle (Rel.now h k1 (FrM.refl z τ) ⟨cnt, ck, t, sz, nx, k3.2.2.2.1, hI, hck, htt⟩ (by rw [k2]; exact hr) (Nat.le_refl _) (Nat.le_refl _))
    rw [g1, bd_n]
    by_cases hpl : p < l.length
    · have hm := (g2.mem _).mp (getD_mem hpl)
      have := m_watY (τ := τ) hN hw.2.2.2.1.1.2 hc hw.2.2.2.1.2.1.2 hI.2.1 hI.2.2.2.2.2.2.1 (p := p) (by omega) hm.1 hm.2 (g2.place hpl) (fun x hx hwx e => by
        obtain ⟨q, q1, q2⟩ := mem_getD ((g2.mem x).mpr ⟨by omega, hwx⟩)
        have := g2.place q1
        rw [q2, e] at this
        subst this
        omega)
      rw [← ew] at this
      rw [if_neg (nI_ge (by omega) (by omega)), in_nI (by omega) (by omega), ck_n, k3.2.2.2.2.2.2, wb_s, nI_clamp (by omega), g3 p hpl, this, bd_n]
      exact ⟨_, _, _, rfl, rfl, hrel⟩
    · have := m_watN (τ := τ) hN hw.2.2.2.1.1.2 hc hw.2.2.2.1.2.1.2 hI.2.1 hI.2.2.2.2.2.2.1 (p := p) hp (fun x hx hwx e => by
        obtain ⟨q, q1, q2⟩ := mem_getD ((g2.mem x).mpr ⟨by omega, hwx⟩)
        have := g2.place q1
        rw [q2, e] at this
        omega)
      rw [← ew] at this
      rw [if_pos (nI_le (by omega) hp), this, bd_n]
      exact ⟨_, _, _, rfl, rfl, hrel⟩
  · rw [if_neg h0, if_neg h0]
    exact ⟨_, _, _, rfl, rfl, sm_idle h⟩
theorem sm_request {z k : Nat} {σ τ : bz_W} (h : bz_Rel z k σ τ) (hk : k < 512) (x1 : Int32) : ∃ v σ1 τ1, f_X6_request σ z x1 = some (v, σ1) ∧ f_X7_request τ (z + 173) x1 = some (v, τ1) ∧ bz_Rel z (k + 1) σ1 τ1 := by
  obtain ⟨cnt, ck, t, sz, nx, hw, hN, a1, hr, hck, htt⟩ := Rel.nw h
  have hc := hw.2.2.2.2.1.1
  unfold f_X6_request f_X7_request
  rcases (show (x1 < 0 ∨ nI cnt ≤ x1) ∨ ∃ j : Nat, j < cnt ∧ x1 = nI j by rcases pk_ix x1 (n := cnt) (by omega) with q | q | q; exact Or.inl (Or.inl q); exact Or.inl (Or.inr q); exact Or.inr q) with h1 | ⟨i, hi, rfl⟩
  · obtain ⟨c, o, σ', τ', g1, g2, g3, g4⟩ := call_both (VP := fun _ _ => True) h hw hck htt (ckN (x1 := 0) hw hN (by decide) h1 (-4) 0) (fun _ _ _ _ q => q.elim)
    rw [g1, g2, bd_n, bd_n]
    rcases g4 with ⟨rfl, q⟩ | ⟨-, -, q⟩
    · rw [if_neg q, if_neg q]
      exact ⟨_, _, _, rfl, rfl, sm_next g3⟩
    · exact q.elim
  · obtain ⟨c, o, σ', τ', g1, g2, g3, g4⟩ := call_both (VP := fun v r' => v = 0 ∧ r' (8 + 20 * i + 5) = 1 ∧ r' 0 = nI cnt) h hw hck htt (ck0 hw hN hi (-4) 0) (fun σ' τ' k1 k2 hz => by
      obtain ⟨s1, s2, s3, s4, s5, s6, s7, s8, s9, s10⟩ := co0 k1 k2 hi (-4) 0
      exact ⟨_, s1, s2, s3, s4, s5, s6, s7, s8, s9, hz, s10, s8.2.2.2.1.1.2⟩)
    rw [g1, g2, bd_n, bd_n]
    rcases g4 with ⟨rfl, q⟩ | ⟨rfl, ⟨rfl, q2, q3⟩, -⟩
    · rw [if_neg q, if_neg q]
      exact ⟨_, _, _, rfl, rfl, sm_next g3⟩
    · obtain ⟨cnt', ck', t', sz', nx', hw', hN', -, hr', hck', htt'⟩ := Rel.nw g3
      have hI' := hw'.2.2.2.2.1
      have hc' := hI'.1
      have ecnt : cnt' = cnt := by
        have := hw'.2.2.2.1.1.2
        rw [q3] at this
        exact ((nI_eq (by omega) (by omega)).mp this).symm
      subst ecnt
      obtain ⟨f', l, l1, l2, l3⟩ := c_fill hw'
      have hlen := l2.len
      obtain ⟨k1, k2, k3⟩ := hw'.line f'
      have hwi : wtB (τ'.1 (z + 174)) i = true := by simp [wtB, q2]
      obtain ⟨p, p1, p2⟩ := mem_getD ((l2.mem i).mpr ⟨hi, hwi⟩)
      have hpl := l2.place p1
      rw [p2] at hpl
      have hm := m_placeOf (τ := τ') hN' hw'.2.2.2.1.1.2 hc' hw'.2.2.2.1.2.1.2 hI'.2.1 hI'.2.2.2.2.2.2.1 hi
      rw [wb_id, hpl] at hm
      have key : ∀ fuel v, v ≤ p → p - v < fuel → f_X6_placeInLine_L7 z (nI i) (nI l.length) (fun (σ8 : bz_W) => some ((-4), σ8)) fuel (nI v) (bz_wb σ' (z + 172) f') = some (nI p, bz_wb σ' (z + 172) f') := by
        intro fuel
        induction fuel with
        | zero => intro v h1 h2; omega
        | succ f ih =>
          intro v h1 h2
          rw [f_X6_placeInLine_L7, if_neg (nI_ge (by omega) (by omega)), in_nI (by omega) (by omega), ck_n, k3.2.2.2.2.2.2, wb_s, nI_clamp (by omega), l3 v (by omega)]
          by_cases e : v = p
          · subst e
            rw [p2, if_pos rfl]
          · have hne : ¬ nI (l.getD v 0) = nI i := fun q => by
              have hm' := (l2.mem _).mp (getD_mem (show v < l.length by omega))
              have e2 := (nI_eq (by omega) (by omega)).mp q
              have := l2.place (show v < l.length by omega)
              rw [e2, hpl] at this
              exact e this.symm
            rw [if_neg hne, lt_n, nI_1]
            exact ih (v + 1) (by omega) (by omega)
      have hcl : f_X6_placeInLine σ' z (nI i) = some (nI p, bz_wb σ' (z + 172) f') := by
        unfold f_X6_placeInLine
        rw [l1, bd_n]
        exact key 1100 0 (Nat.zero_le _) (by omega)
      rw [if_pos (by decide), if_pos (by decide), hcl, hm, bd_n, bd_n]
      exact ⟨_, _, _, rfl, rfl, sm_next (Rel.now g3 k1 (FrM.refl z τ') ⟨cnt', ck', t', sz', nx', k3.2.2.2.1, hI', hck', htt'⟩ (by rw [k2]; exact hr') (Nat.le_refl _) (Nat.le_refl _))⟩
