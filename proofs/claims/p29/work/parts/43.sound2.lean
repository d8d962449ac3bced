/-! sound answers 1 -/
def MI (r : Nat → Int32) (ck i : Nat) : Prop := r (8 + 20 * i + 12) = r (8 + 20 * i + 13) + r (8 + 20 * i + 6) ∧ (r (8 + 20 * i + 5) = 2 → r (8 + 20 * i + 7) = 0) ∧ (r (8 + 20 * i + 5) = 4 → r (8 + 20 * i + 11) = 2 ∨ r (8 + 20 * i + 11) = 4) ∧ ∃ s t : Nat, r (8 + 20 * i + 14) = nI s ∧ r (8 + 20 * i + 16) = nI t ∧ s ≤ t ∧ t ≤ ck
def mfR (r : Nat → Int32) (j w : Nat) : Int32 := nI (cntM r (nI w) j)
theorem ne_m4 {n : Nat} (h : n < 2 ^ 31) : ¬ nI n = (-4 : Int32) := by
  intro e
  have := congrArg Int32.toInt e
  rw [nI_toInt h] at this
  have h2 : (-4 : Int32).toInt = -4 := by decide
  rw [h2] at this
  omega
theorem le_m1 {s t : Nat} (h : s ≤ t) (ht : t < 2 ^ 30) : nI s - 1 ≤ nI t := by
  rw [Int32.le_iff_toInt_le]
  have e1 : (nI s - nI 1).toInt = (s : Int) - (1 : Nat) := pk_sub_toInt (by omega) (by omega)
  have e2 : (nI t).toInt = t := nI_toInt (by omega)
  show (nI s - nI 1).toInt ≤ _
  rw [e1, e2]
  omega
theorem modes_N {r : Nat → Int32} {ck : Nat} : ∀ n, (∀ i, i < n → IM r ck i) → cntM r (nI 0) n + cntM r (nI 1) n + cntM r (nI 2) n + cntM r (nI 3) n + cntM r (nI 4) n = n
  | 0, _ => rfl
  | n + 1, h => by
    have e := modes_N n (fun i hi => h i (by omega))
    obtain ⟨-, -, -, -, -, md, -, -, -, -, -, -, -, -, -, -, e5, -, -, -, -, -, -, -, -, -, -, b5, -⟩ := h n (by omega)
    rw [cntM_s, cntM_s, cntM_s, cntM_s, cntM_s, e5]
    have key : ∀ w, w ≤ 4 → (if nI md = nI w then 1 else 0) = if md = w then (1 : Nat) else 0 := fun w hw => by
      by_cases h : md = w
      · rw [if_pos h, if_pos (by rw [h])]
      · rw [if_neg h, if_neg (fun e => h ((nI_eq (by omega) (by omega)).mp e))]
    rw [key 0 (by omega), key 1 (by omega), key 2 (by omega), key 3 (by omega), key 4 (by omega)]
    rcases (show md = 0 ∨ md = 1 ∨ md = 2 ∨ md = 3 ∨ md = 4 by omega) with rfl | rfl | rfl | rfl | rfl <;> simp <;> omega
theorem modes_all {r : Nat → Int32} {ck n : Nat} (h : ∀ i, i < n → IM r ck i) : mfR r n 0 + mfR r n 1 + mfR r n 2 + mfR r n 3 + mfR r n 4 = nI n := by
  unfold mfR
  rw [nI_add, nI_add, nI_add, nI_add, modes_N n h]
theorem lt_if {α : Type} (e : Int32 → bz_W → α) {c : Prop} [Decidable c] (a b : Int32) (σ : bz_W) : lt_ e (fun j => if c then j a σ else j b σ) = e (if c then a else b) σ := by
  unfold lt_
  split <;> rfl
theorem lt_or {α : Type} (e : bz_W → α) {c v : Prop} [Decidable c] [Decidable v] (h : c → v) (σ : bz_W) (X : α) : lt_ e (fun j => if c then (if v then j σ else X) else j σ) = e σ := by
  show (if c then (if v then e σ else X) else e σ) = e σ
  by_cases g : c
  · rw [if_pos g, if_pos (h g)]
  · rw [if_neg g]
theorem lt_or3 {α : Type} (e : bz_W → α) {c d v : Prop} [Decidable c] [Decidable d] [Decidable v] (h : ¬ c → ¬ d → v) (σ : bz_W) (X : α) : lt_ e (fun j => if c then j σ else if d then j σ else if v then j σ else X) = e σ := by
  show (if c then e σ else if d then e σ else if v then e σ else X) = e σ
  by_cases g : c
  · rw [if_pos g]
  · rw [if_neg g]
    by_cases g2 : d
    · rw [if_pos g2]
    · rw [if_neg g2, if_pos (h g g2)]
theorem ne_bits {c d : Prop} [Decidable c] [Decidable d] (h : c ↔ ¬ d) : ¬ (if c then (1 : Int32) else 0) = if d then 1 else 0 := by
  by_cases g : d
  · rw [if_pos g, if_neg (fun x => h.mp x g)]; decide
  · rw [if_neg g, if_pos (h.mpr g)]; decide
section SO
variable {z k cnt ck t : Nat} {σ τ : bz_W}
set_option maxHeartbeats 4000000 in
theorem so_L12 (h : WR z k cnt ck t σ τ) (hM : ∀ i, i < cnt → MI (τ.1 (z + 174)) ck i) {n : Nat} (hn : n < z ∨ z + 172 < n) {K : Int32 → Int32 → bz_W → Option (Int32 × bz_W)} : ∀ fuel j (F : Nat → Int32), j ≤ cnt → cnt - j < fuel → (∀ w, w < 8 → F w = mfR (τ.1 (z + 174)) j w) → ∃ F', (∀ w, w < 8 → F' w = mfR (τ.1 (z + 174)) cnt w) ∧ f_L_sound_L12 z n K fuel (fsum (fun i => τ.1 (z + 174) (8 + 20 * i + 12)) j) (fsum (drawR (τ.1 (z + 174))) j) (nI j) (bz_wb σ n F) = K (fsum (fun i => τ.1 (z + 174) (8 + 20 * i + 12)) cnt) (fsum (drawR (τ.1 (z + 174))) cnt) (bz_wb σ n F') := by
  have hc := h.2.2.2.2.2.1
  intro fuel
  induction fuel with
  | zero => intro j F hj hf; omega
  | succ f ih =>
    intro j F hj hf hF
    have h1 := h.wb (n := n) (by omega) F
    rw [f_L_sound_L12, rd_count0 h1, bd_n]
    by_cases hjn : j = cnt
    · subst hjn
      rw [if_pos (nI_le (Nat.le_refl _) (by omega))]
      exact ⟨F, hF, rfl⟩
    · have hjc : j < cnt := by omega
      have hI := h.2.2.2.2.2.2.2.2.2 j hjc
      have er1 := h.2.2.2.1
      have hck := h.2.2.2.2.2.2.1
      obtain ⟨ma, mb, mc, s, u, ms, mt, mst, mu⟩ := hM j hjc
      obtain ⟨-, rm, -, -, -, md, -, -, sc, si, -, -, -, -, -, -, e5, -, -, e8, e9, -, -, -, -, -, -, b5, -, -, b8, b9, -⟩ := hI
      have h5 : motV (τ.1 (z + 174)) j 5 = nI md := e5
      rw [if_neg (nI_ge (by omega) (by omega)), rd_motor h1 (x := 5) hjc 5 (by omega) rfl, bd_n, rd_motor h1 (x := 6) hjc 6 (by omega) rfl, bd_n, rd_motor h1 (x := 3) hjc 3 (by omega) rfl, bd_n, lt_n, h5, in_nI (show md < 8 by omega) (by omega), ck_n, ck_n, lt_n, nI_clamp (show md < 2 ^ 31 by omega), wb_s, wi_wb]
      have hF2 : ∀ w, w < 8 → upd F md (F md + 1) w = mfR (τ.1 (z + 174)) (j + 1) w := by
        intro w hw
        unfold mfR
        rw [cntM_s, e5]
        by_cases hwm : w = md
        · subst hwm
          rw [up_s, hF w hw, if_pos rfl]
          unfold mfR
          rw [nI_1]
        · rw [up_o _ _ hwm, hF w hw, if_neg (fun e => hwm ((nI_eq (by omega) (by omega)).mp e.symm))]
          rfl
      have h2 := h.wb (n := n) (by omega) (upd F md (F md + 1))
      rw [rd_account h2 (x := 0) hjc 0 (by omega) rfl, bd_n, lt_n, rd_motor h2 (x := 10) hjc 10 (by omega) rfl, bd_n, lt_n, rd_account h2 (x := 0) hjc 0 (by omega) rfl, bd_n, rd_account h2 (x := 1) hjc 1 (by omega) rfl, bd_n, if_pos (show τ.1 (z + 174) (8 + 20 * j + (12 + 0)) = τ.1 (z + 174) (8 + 20 * j + (12 + 1)) + motV (τ.1 (z + 174)) j 6 from ma), rd_motor h2 (x := 12) hjc 12 (by omega) rfl, bd_n]
      obtain ⟨F', f1, f2⟩ := ih (j + 1) (upd F md (F md + 1)) (by omega) (by omega) hF2
      refine ⟨F', f1, Eq.trans ?_ f2⟩
      have b8 := b8.1
      have n8 : ¬ (if motV (τ.1 (z + 174)) j 8 = -4 then (1 : Int32) else 0) = if nI md = 2 then 1 else 0 := by
        apply ne_bits
        rw [motV8, e5, e8]
        by_cases g : nI md = 2
        · rw [if_pos g]
          exact ⟨fun e => absurd e (ne_m4 (by omega)), fun e => absurd g e⟩
        · rw [if_neg g]
          exact ⟨fun _ => g, fun _ => rfl⟩
      have n9 : ¬ (if motV (τ.1 (z + 174)) j 9 = -4 then (1 : Int32) else 0) = if nI md = 1 then 1 else 0 := by
        apply ne_bits
        rw [motV9, e5, er1, e9, pk_sub2 b9]
        by_cases g : nI md = 1
        · rw [if_pos g]
          exact ⟨fun e => absurd e (ne_m4 (by omega)), fun e => absurd g e⟩
        · rw [if_neg g]
          exact ⟨fun _ => g, fun _ => rfl⟩
      have n11 : ¬ (if motV (τ.1 (z + 174)) j 11 = -4 then (1 : Int32) else 0) = if nI md = 4 then 1 else 0 := by
        apply ne_bits
        rw [motV11, e5]
        by_cases g : nI md = 4
        · rw [if_pos g]
          have := mc (by rw [e5, g])
          refine ⟨fun e => ?_, fun e => absurd g e⟩
          rcases this with e2 | e2 <;> rw [e2] at e <;> exact absurd e (by decide)
        · rw [if_neg g]
          exact ⟨fun _ => g, fun _ => rfl⟩
      have e14 : τ.1 (z + 174) (8 + 20 * j + (12 + 2)) = nI s := ms
      have e16 : τ.1 (z + 174) (8 + 20 * j + (12 + 4)) = nI u := mt
      rw [lt_if]
      try dsimp only
      rw [if_pos (show motV (τ.1 (z + 174)) j 12 = if 0 ≤ motV (τ.1 (z + 174)) j 3 - motV (τ.1 (z + 174)) j 6 then motV (τ.1 (z + 174)) j 3 - motV (τ.1 (z + 174)) j 6 else 0 from rfl), rd_start h2 hjc, bd_n, l_heatOf h2 hjc, bd_n, if_pos rfl, rd_motor h2 (x := 8) hjc 8 (by omega) rfl, bd_n, lt_if]
      try dsimp only
      rw [lt_if]
      try dsimp only
      rw [if_neg n8, rd_motor h2 (x := 9) hjc 9 (by omega) rfl, bd_n, lt_if]
      try dsimp only
      rw [lt_if]
      try dsimp only
      rw [if_neg n9, rd_motor h2 (x := 11) hjc 11 (by omega) rfl, bd_n, lt_if]
      try dsimp only
      rw [lt_if]
      try dsimp only
      rw [if_neg n11, rd_motor h2 (x := 7) hjc 7 (by omega) rfl]
      simp only [bd_n]
      rw [lt_or _ (c := nI md = 2) (v := motV (τ.1 (z + 174)) j 7 = 0) (fun e => mb (by rw [e5]; exact e))]
      try dsimp only
      rw [rd_why h2 hjc, bd_n, l_why h2 hjc, e5]
      simp only [bd_n]
      rw [lt_if]
      try dsimp only
      rw [if_pos rfl, rd_motor h2 (x := 10) hjc 10 (by omega) rfl]
      simp only [bd_n]
      rw [lt_or3 _ (c := nI md = 2) (d := nI md = 3) (v := motV (τ.1 (z + 174)) j 10 = 0) (fun g2 g3 => by
        show drawR (τ.1 (z + 174)) j = 0
        unfold drawR
        rw [e5, if_neg g2, if_neg g3])]
      try dsimp only
      rw [rd_account h2 (x := 4) hjc 4 (by omega) rfl, bd_n, rd_account h2 (x := 2) hjc 2 (by omega) rfl, bd_n, e14, e16, if_pos (le_m1 mst (by omega)), lt_n, nI_1]
      rfl
theorem so_L335 (h : WR z k cnt ck t σ τ) {n : Nat} (hn : n < z ∨ z + 172 < n) {F : Nat → Int32} (hF : ∀ w, w < 8 → F w = mfR (τ.1 (z + 174)) cnt w) (x2 x3 : Int32) {K : bz_W → Option (Int32 × bz_W)} : ∀ fuel j, 1 ≤ j → j ≤ 5 → 5 - j < fuel → f_L_sound_L335 z n x2 x3 K fuel (nI j) (bz_wb σ n F) = K (bz_wb σ n F) := by
  intro fuel
  induction fuel with
  | zero => intro j h1 hj hf; omega
  | succ f ih =>
    intro j hj1 hj hf
    have h1 := h.wb (n := n) (by omega) F
    rw [f_L_sound_L335]
    by_cases hjn : j = 5
    · subst hjn
      rw [if_pos (show (5 : Int32) ≤ nI 5 from nI_le (Nat.le_refl _) (by omega))]
    · rw [if_neg (show ¬ (5 : Int32) ≤ nI j from nI_ge (b := 5) (by omega) (by omega)), rd_count h1 j (by omega) rfl, bd_n, in_nI (show j < 8 by omega) (by omega), ck_n, nI_clamp (by omega), wb_s, hF j (by omega)]
      have e : cntV (τ.1 (z + 174)) cnt (τ.1 (z + 173) 5) (τ.1 (z + 173) 2) j = mfR (τ.1 (z + 174)) cnt j := by
        unfold cntV mfR
        rw [if_neg (show ¬ j = 0 by omega), if_pos (show j < 5 by omega)]
        exact fsum_cnt _ _ _
      rw [e, if_pos rfl, lt_n, nI_1]
      exact ih (j + 1) (by omega) (by omega) (by omega)
set_option maxHeartbeats 4000000 in
theorem l_sound (h : WR z k cnt ck t σ τ) (hM : ∀ i, i < cnt → MI (τ.1 (z + 174)) ck i) {n : Nat} (hn : n < z ∨ z + 172 < n) : ∃ ρ, f_L_sound_b (bz_wb σ n (fun _ => 0)) z n = some (1, ρ) ∧ ρ.2 = σ.2 ∧ WR z k cnt ck t (bz_wb ρ n (σ.1 n)) τ := by
  have hc := h.2.2.2.2.2.1
  have hIM := h.2.2.2.2.2.2.2.2.2
  unfold f_L_sound_b
  obtain ⟨F, hF, e1⟩ := so_L12 h hM hn (K := fun (x98 : Int32) (x99 : Int32) (σ100 : bz_W) => f_L_sound_L335 z n x98 x99 (fun (σ107 : bz_W) => lt_ ((((((σ107.1 n 0) + (σ107.1 n 1)) + (σ107.1 n 2)) + (σ107.1 n 3)) + (σ107.1 n 4))) fun x108 => bd_ (f_X6_count σ107 z 0) fun r109 σ110 => if x108 = r109 then bd_ (f_L_lines σ110 z) fun r112 σ113 => if r112 = 0 then some (0, σ113) else bd_ (f_X6_count σ113 z 11) fun r115 σ116 => if r115 = x98 then bd_ (f_X6_count σ116 z 12) fun r118 σ119 => bd_ (f_X6_count σ119 z 13) fun r120 σ121 => if x98 = (r118 + r120) then bd_ (f_X6_count σ121 z 14) fun r123 σ124 => if r123 = x99 then bd_ (f_X6_motor σ124 z x108 0) fun r126 σ127 => if r126 = (-1) then bd_ (f_X6_count σ127 z 18) fun r129 σ130 => if r129 = (-2) then some (1, σ130) else some (0, σ130) else some (0, σ127) else some (0, σ124) else some (0, σ121) else some (0, σ116) else some (0, σ110)) 1100 1 σ100) 1100 0 (fun _ => 0) (by omega) (by omega) (fun w hw => rfl)
  have h1 := h.wb (n := n) (by omega) F
  obtain ⟨g, eg⟩ := l_lines h1
  have h2 := h1.wb (n := z + 172) (by omega) g
  refine ⟨bz_wb (bz_wb σ n F) (z + 172) g, e1.trans ?_, rfl, h2.wb (n := n) (by omega) _⟩
  refine (so_L335 h hn hF _ _ 1100 1 (by omega) (by omega) (by omega)).trans ?_
  have ea : fsum (fun i => τ.1 (z + 174) (8 + 20 * i + 12)) cnt = fsum (fun i => τ.1 (z + 174) (8 + 20 * i + 13)) cnt + fsum (fun i => τ.1 (z + 174) (8 + 20 * i + 6)) cnt := by
    rw [← fsum_add]
    exact fsum_congr cnt (fun i hi => (hM i hi).1)
  have em := modes_all hIM
  rw [lt_n, wb_s, hF 0 (by omega), hF 1 (by omega), hF 2 (by omega), hF 3 (by omega), hF 4 (by omega), em, rd_count0 h1, bd_n, if_pos rfl, eg, bd_n, if_neg (by decide), rd_count h2 (x := 11) 11 (by omega) rfl, bd_n, if_pos (show cntV (τ.1 (z + 174)) cnt (τ.1 (z + 173) 5) (τ.1 (z + 173) 2) 11 = fsum (fun i => τ.1 (z + 174) (8 + 20 * i + 12)) cnt from rfl), rd_count h2 (x := 12) 12 (by omega) rfl, bd_n, rd_count h2 (x := 13) 13 (by omega) rfl, bd_n, if_pos (show fsum (fun i => τ.1 (z + 174) (8 + 20 * i + 12)) cnt = cntV (τ.1 (z + 174)) cnt (τ.1 (z + 173) 5) (τ.1 (z + 173) 2) 12 + cntV (τ.1 (z + 174)) cnt (τ.1 (z + 173) 5) (τ.1 (z + 173) 2) 13 from ea), rd_count h2 (x := 14) 14 (by omega) rfl, bd_n, if_pos (show cntV (τ.1 (z + 174)) cnt (τ.1 (z + 173) 5) (τ.1 (z + 173) 2) 14 = fsum (drawR (τ.1 (z + 174))) cnt from rfl), rd_motorN h2, bd_n, if_pos rfl, rd_count18 h2, bd_n, if_pos rfl]
end SO
