/-! one step of the law's loop -/
def OK1 (x : Option (Int32 × bz_W)) : Prop := ∃ ρ, x = some (1, ρ)
noncomputable def lw_46 (L : Nat) (xs : Nat → Int32) (a1 : Nat) (k : bz_W → Option (Int32 × bz_W)) (n : Nat) (v2 : Int32) (x44 : Int32) (σ45 : bz_W) : Option (Int32 × bz_W) := if x44 = 0 then some (0, σ45) else sb_ a1 σ45 fun r48 σ49 => if r48 = 0 then some (0, σ49) else lt_ (v2 + 1) fun x51 => f_L_law_L91 L xs a1 k n x51 σ49
noncomputable def lw_53 (a1 : Nat) (r36 : Int64) (j46 : Int32 → bz_W → Option (Int32 × bz_W)) (y41 : Int32) (σ52 : bz_W) : Option (Int32 × bz_W) := bd_ (f_X6_undo σ52 a1) fun r54 σ55 => if r54 = y41 then bd_ (f_L_digest σ55 a1) fun r62 σ63 => if (lg_cmp r62 r36) = 0 then j46 1 σ63 else j46 0 σ63 else j46 0 σ55
noncomputable def lw_66 (a1 : Nat) (r30 x29 r34 : Int32) (r36 : Int64) (j46 : Int32 → bz_W → Option (Int32 × bz_W)) (j53 : bz_W → Option (Int32 × bz_W)) (x38 : Int32) (σ65 : bz_W) : Option (Int32 × bz_W) := if x38 = 0 then j46 x38 σ65 else if 10 ≤ r30 then j46 x38 σ65 else if (x29 &&& 1536) = 0 then if r34 = 4 then bd_ (f_L_digest σ65 a1) fun r71 σ72 => if (lg_cmp r71 r36) = 0 then j46 x38 σ72 else j53 σ72 else j46 x38 σ65 else j46 x38 σ65
noncomputable def lw_tl (a1 : Nat) (r30 x29 r34 : Int32) (j53 j66 : bz_W → Option (Int32 × bz_W)) (x38 : Int32) (σ42 : bz_W) : Option (Int32 × bz_W) := if x38 = 0 then j66 σ42 else if 10 ≤ r30 then j66 σ42 else if (x29 &&& 1536) = 0 then bd_ (f_X6_count σ42 a1 16) fun r77 σ78 => if r77 = r34 then j66 σ78 else j53 σ78 else j66 σ42
noncomputable def lw_tail (L : Nat) (xs : Nat → Int32) (a1 : Nat) (k : bz_W → Option (Int32 × bz_W)) (n : Nat) (v2 r30 x29 r34 : Int32) (r36 : Int64) (x38 : Int32) (σ39 : bz_W) : Option (Int32 × bz_W) := lt_ (fun (y41 : Int32) (σ42 : bz_W) => lw_tl a1 r30 x29 r34 (lw_53 a1 r36 (lw_46 L xs a1 k n v2) y41) (lw_66 a1 r30 x29 r34 r36 (lw_46 L xs a1 k n v2) (lw_53 a1 r36 (lw_46 L xs a1 k n v2) y41) x38) x38 σ42) fun j43 => if r34 = 4 then j43 3 σ39 else j43 r34 σ39
noncomputable def lw_add (a1 : Nat) (x27 x29 r32 : Int32) (j40 : Int32 → bz_W → Option (Int32 × bz_W)) (σ81 : bz_W) : Option (Int32 × bz_W) := bd_ (f_L_low σ81 x27 60) fun r83 σ84 => bd_ (f_L_low σ84 x29 12) fun r85 σ86 => bd_ (f_L_low σ86 (x27 >>> (20 &&& 31)) 5) fun r87 σ88 => bd_ (f_L_low σ88 (x29 >>> (4 &&& 31)) 30000) fun r89 σ90 => bd_ (f_X6_addMotor σ90 a1 (1 + r83) (2 + r85) (2 + r87) (100 + r89)) fun r91 σ92 => if r32 = 8 then (if r91 = (-3) then bd_ (f_X6_count σ92 a1 8) fun r106 σ107 => if r106 = 5 then j40 1 σ107 else j40 0 σ107 else j40 0 σ92) else (if r91 = r32 then bd_ (f_X6_motor σ92 a1 r32 4) fun r100 σ101 => if r100 = 5 then j40 1 σ101 else j40 0 σ101 else j40 0 σ92)
section LWS
variable {z k cnt ck t n s : Nat} {σ τ τ0 : bz_W} {L N : Nat} {xs : Nat → Int32} {K : bz_W → Option (Int32 × bz_W)} {v2 x29 : Int32}
theorem lw_snd (h : WW z k σ τ) (hk : k < 512) {K : Int32 → bz_W → Option (Int32 × bz_W)} (hK : ∀ σ1, WW z k σ1 τ → OK1 (K 1 σ1)) : OK1 (sb_ z σ K) := by
  obtain ⟨cnt, ck, t, w, g, -, -⟩ := h.full hk
  refine ⟨σ, sb_i fun n hn => ?_⟩
  obtain ⟨ρ, a1, a2, a3⟩ := l_sound w g.2.2 hn
  obtain ⟨ρ', b⟩ := hK _ ⟨a3.1, h.2⟩
  exact ⟨1, ρ, ρ', a1, a2, b⟩
theorem lw_46_go (h : WW z k σ τ) (hk : k < 512) (hK : ∀ σ1, WW z k σ1 τ → OK1 (f_L_law_L91 L xs z K N (v2 + 1) σ1)) : OK1 (lw_46 L xs z K N v2 1 σ) := by
  unfold lw_46
  rw [if_neg (by decide)]
  refine lw_snd h hk fun σ1 h1 => ?_
  rw [if_neg (by decide), lt_n]
  exact hK σ1 h1
theorem lw_53_go (h : WW z k σ τ) (hk : k + 1 < 512) (hg0 : GF (τ0.1 (z + 174)) cnt ck t) {m : Nat} (hm : m < 4) (hc : τ.1 (z + 173) 2 = nI (m + 1)) (hrow : ∀ x, x < 246 → τ.1 (z + 175) (246 * m + x) = τ0.1 (z + 174) x) {y : Int32} (hy : y = nI m) {j46 : Int32 → bz_W → Option (Int32 × bz_W)} (hJ : ∀ σ1 τ1, WW z (k + 1) σ1 τ1 → OK1 (j46 1 σ1)) : OK1 (lw_53 z (digV (τ0.1 (z + 174)) cnt) j46 y σ) := by
  obtain ⟨σ1, τ1, e1, h1, r1⟩ := ww_undo h (by omega) hm hc
  have hr : ∀ x, x < 246 → τ1.1 (z + 174) x = τ0.1 (z + 174) x := fun x hx => by rw [r1 x hx, hrow x hx]
  obtain ⟨cnt1, ck1, t1, w1, g1, -, -⟩ := h1.full (by omega)
  have b1 := g1.1.2.2.2.1
  have b2 := hg0.1.2.2.2.1
  obtain rfl : cnt1 = cnt := (nI_eq (by omega) (by omega)).mp (g1.1.1.symm.trans ((hr 0 (by omega)).trans hg0.1.1))
  unfold lw_53
  rw [e1, bd_n, hy, if_pos rfl, l_dig w1, bd_n, digV_congr hr b1, lg0, if_pos rfl]
  exact hJ _ _ h1
theorem lw_tail_go (h : WW z k σ τ) (hk : k + 1 < 512) (hg0 : GF (τ0.1 (z + 174)) cnt ck t) (hn : n ≤ 4) (hn0 : τ0.1 (z + 173) 2 = nI n) (hs : s < 13) (hO : s < 10 → OUT z τ0 τ) (hK : ∀ σ1 τ1, WW z (k + 1) σ1 τ1 → OK1 (f_L_law_L91 L xs z K N (v2 + 1) σ1)) : OK1 (lw_tail L xs z K N v2 (nI s) x29 (nI n) (digV (τ0.1 (z + 174)) cnt) 1 σ) := by
  have h46 : ∀ σ1 τ1, WW z (k + 1) σ1 τ1 → OK1 (lw_46 L xs z K N v2 1 σ1) := fun σ1 τ1 h1 => lw_46_go h1 hk fun σ2 h2 => hK σ2 τ1 h2
  have hy : (if nI n = 4 then (3 : Int32) else nI n) = nI (min n 3) := by
    by_cases e : n = 4
    · subst e
      rfl
    · rw [if_neg (show ¬ nI n = (4 : Int32) from fun x => e ((nI_eq (b := 4) (by omega) (by omega)).mp x)), show min n 3 = n by omega]
  unfold lw_tail
  rw [lt_if]
  try dsimp only
  rw [hy]
  unfold lw_tl
  rw [if_neg (show ¬ (1 : Int32) = 0 by decide)]
  by_cases h10 : 10 ≤ s
  · rw [if_pos (show (10 : Int32) ≤ nI s from nI_le (a := 10) h10 (by omega))]
    unfold lw_66
    rw [if_neg (show ¬ (1 : Int32) = 0 by decide), if_pos (show (10 : Int32) ≤ nI s from nI_le (a := 10) h10 (by omega))]
    exact h46 σ τ (h.mono (by omega))
  · rw [if_neg (show ¬ (10 : Int32) ≤ nI s from nI_ge (b := 10) (by omega) (by omega))]
    obtain ⟨cnt1, ck1, t1, w1, g1, -, -⟩ := h.full (by omega)
    have h66 : ∀ (j53 : bz_W → Option (Int32 × bz_W)), (n = 4 → lg_cmp (digV (τ.1 (z + 174)) cnt1) (digV (τ0.1 (z + 174)) cnt) = 0 ∨ OK1 (j53 σ)) → OK1 (lw_66 z (nI s) x29 (nI n) (digV (τ0.1 (z + 174)) cnt) (lw_46 L xs z K N v2) j53 1 σ) := by
      intro j53 hj
      unfold lw_66
      rw [if_neg (show ¬ (1 : Int32) = 0 by decide), if_neg (show ¬ (10 : Int32) ≤ nI s from nI_ge (b := 10) (by omega) (by omega))]
      by_cases hx : x29 &&& 1536 = 0
      · rw [if_pos hx]
        by_cases e : n = 4
        · rw [if_pos (show nI n = 4 by rw [e]; rfl), l_dig w1, bd_n]
          rcases hj e with q | q
          · rw [if_pos q]
            exact h46 σ τ (h.mono (by omega))
          · by_cases q2 : lg_cmp (digV (τ.1 (z + 174)) cnt1) (digV (τ0.1 (z + 174)) cnt) = 0
            · rw [if_pos q2]
              exact h46 σ τ (h.mono (by omega))
            · rw [if_neg q2]
              exact q
        · rw [if_neg (show ¬ nI n = (4 : Int32) from fun x => e ((nI_eq (b := 4) (by omega) (by omega)).mp x))]
          exact h46 σ τ (h.mono (by omega))
      · rw [if_neg hx]
        exact h46 σ τ (h.mono (by omega))
    rcases hO (by omega) with ⟨o1, o2⟩ | ⟨n2, o1, o2, o3, o4⟩
    · have hd : lg_cmp (digV (τ.1 (z + 174)) cnt1) (digV (τ0.1 (z + 174)) cnt) = 0 := by
        have b1 := g1.1.2.2.2.1
        have b2 := hg0.1.2.2.2.1
        obtain rfl : cnt1 = cnt := (nI_eq (by omega) (by omega)).mp (g1.1.1.symm.trans (by rw [o1]; exact hg0.1.1))
        rw [o1, lg0]
      by_cases hx : x29 &&& 1536 = 0
      · rw [if_pos hx, rd_count w1 (x := 16) 16 (by omega) rfl, bd_n, show cntV (τ.1 (z + 174)) cnt1 (τ.1 (z + 173) 5) (τ.1 (z + 173) 2) 16 = nI n from o2.trans hn0, if_pos rfl]
        exact h66 _ fun _ => Or.inl hd
      · rw [if_neg hx]
        exact h66 _ fun _ => Or.inl hd
    · obtain rfl : n2 = n := (nI_eq (by omega) (by omega)).mp (o2.symm.trans hn0)
      have h53 : OK1 (lw_53 z (digV (τ0.1 (z + 174)) cnt) (lw_46 L xs z K N v2) (nI (min n2 3)) σ) := lw_53_go h hk hg0 (m := min n2 3) (by omega) o3 o4 rfl h46
      by_cases hx : x29 &&& 1536 = 0
      · rw [if_pos hx, rd_count w1 (x := 16) 16 (by omega) rfl, bd_n, show cntV (τ.1 (z + 174)) cnt1 (τ.1 (z + 173) 5) (τ.1 (z + 173) 2) 16 = nI (min n2 3 + 1) from o3]
        by_cases e : nI (min n2 3 + 1) = nI n2
        · rw [if_pos e]
          exact h66 _ fun _ => Or.inr h53
        · rw [if_neg e]
          exact h53
      · rw [if_neg hx]
        exact h66 _ fun _ => Or.inr h53
theorem lw_add_go (h : WW z k σ τ) (hk : k + 1 < 512) (hg : GF (τ.1 (z + 174)) cnt ck t) (x27 : Int32) {j40 : Int32 → bz_W → Option (Int32 × bz_W)} (hJ : ∀ σ1 τ1, WW z (k + 1) σ1 τ1 → OUT z τ τ1 → OK1 (j40 1 σ1)) : OK1 (lw_add z x27 x29 (nI cnt) j40 σ) := by
  have q1 := lowN_lt x27 (n := 60) (by omega)
  have q2 := lowN_lt x29 (n := 12) (by omega)
  have q3 := lowN_lt (x27 >>> (20 &&& 31)) (n := 5) (by omega)
  have q4 := lowN_lt (x29 >>> (4 &&& 31)) (n := 30000) (by omega)
  unfold lw_add
  rw [l_low _ x27 (n := 60) (y := 60) (by omega) (by omega) rfl, bd_n, l_low _ x29 (n := 12) (y := 12) (by omega) (by omega) rfl, bd_n, l_low _ (x27 >>> (20 &&& 31)) (n := 5) (y := 5) (by omega) (by omega) rfl, bd_n, l_low _ (x29 >>> (4 &&& 31)) (n := 30000) (y := 30000) (by omega) (by omega) rfl, bd_n]
  rw [show (1 : Int32) + nI (lowN x27 60) = nI (1 + lowN x27 60) from nI_add 1 _, show (2 : Int32) + nI (lowN x29 12) = nI (2 + lowN x29 12) from nI_add 2 _, show (2 : Int32) + nI (lowN (x27 >>> (20 &&& 31)) 5) = nI (2 + lowN (x27 >>> (20 &&& 31)) 5) from nI_add 2 _, show (100 : Int32) + nI (lowN (x29 >>> (4 &&& 31)) 30000) = nI (100 + lowN (x29 >>> (4 &&& 31)) 30000) from nI_add 100 _]
  obtain ⟨σ1, τ1, h1, o1, q⟩ := a_add h (by omega) hg (ra := 1 + lowN x27 60) (rm := 2 + lowN x29 12) (fa := 2 + lowN (x27 >>> (20 &&& 31)) 5) (li := 100 + lowN (x29 >>> (4 &&& 31)) 30000) (by omega) (by omega) (by omega) (by omega)
  rcases q with ⟨c8, e1, e5, g1⟩ | ⟨c8, e1, g1, e5⟩
  · have w1 := h1.wr2 (by omega) g1
    rw [e1, bd_n, if_pos (show nI cnt = 8 by rw [c8]; rfl), if_pos rfl, rd_count w1 (x := 8) 8 (by omega) rfl, bd_n, show cntV (τ1.1 (z + 174)) cnt (τ1.1 (z + 173) 5) (τ1.1 (z + 173) 2) 8 = 5 from e5, if_pos rfl]
    exact hJ _ _ h1 o1
  · have w1 := h1.wr2 (by omega) g1
    rw [e1, bd_n, if_neg (show ¬ nI cnt = (8 : Int32) from fun x => by have := (nI_eq (b := 8) (by omega) (by omega)).mp x; omega), if_pos rfl, rd_motor w1 (x := 4) (show cnt < cnt + 1 by omega) 4 (by omega) rfl, bd_n, show motV (τ1.1 (z + 174)) cnt 4 = 5 from e5, if_pos rfl]
    exact hJ _ _ h1 o1
theorem lw_secs {a2 a4 a5 a7 : Int32} {a8 : Int64} {K : Int32 → bz_W → Option (Int32 × bz_W)} : ∀ fuel j k (σ τ : bz_W) (x : Int32), x = nI j - 1 → j < fuel → WW z k σ τ → k + j < 500 → ∃ σ1 τ1, f_L_law_L363 L xs z a2 a4 a5 a7 a8 K fuel 1 x σ = K 1 σ1 ∧ WW z (k + j) σ1 τ1 := by
  intro fuel
  induction fuel with
  | zero => intro j k σ τ x hx hf; omega
  | succ f ih =>
    intro j k σ τ x hx hf h hk
    rw [f_L_law_L363]
    match j, hx, hf, hk with
    | 0, hx, hf, hk =>
      rw [hx, if_pos (by decide)]
      exact ⟨σ, τ, rfl, h⟩
    | j + 1, hx, hf, hk =>
      rw [nI_pred] at hx
      obtain ⟨cnt, ck, t, w, g, b1, b2⟩ := h.full (by omega)
      obtain ⟨σ1, τ1, e1, h1⟩ := l_second h (by omega) g (by omega) (by omega)
      obtain ⟨σ2, τ2, e2, h2⟩ := ih j (k + 1) σ1 τ1 (x + (-1)) (by rw [hx, Int32.sub_eq_add_neg]) (by omega) h1 (by omega)
      refine ⟨σ2, τ2, ?_, h2.mono (by omega)⟩
      rw [hx, if_neg (nI_pos (by omega)), if_neg (by decide), e1, bd_n, lt_n, ← hx]
      exact e2
end LWS
