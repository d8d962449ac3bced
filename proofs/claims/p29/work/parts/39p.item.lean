/-! reading a text: an item -/
def Q1 (a0 : Nat) (x1 r2 y5 : Int32) (D : Nat) (σ6 : bz_W) : Option (Int32 × bz_W) := bd_ (f_X7_timeAt σ6 a0 r2 y5) fun r8 σ9 => ck_ (in_ x1 48) (lt_ (bz_wi σ9 D x1.toNatClampNeg r8) fun σ11 => ck_ (in_ x1 48) (if (σ11.1 (σ11.2 a0 10) x1.toNatClampNeg) = (-4) then some (0, σ11) else lt_ (bz_wi σ11 a0 8 r2) fun σ15 => bd_ (f_X7_takesBlank σ15 a0) fun r16 σ17 => if r16 = 0 then some (0, σ17) else bd_ (f_X7_end σ17 a0) fun r19 σ20 => bd_ (f_X7_wordAt σ20 a0 r19) fun r22 σ23 => ck_ (in_ (x1 + 1) 48) (lt_ (bz_wi σ23 (σ20.2 a0 10) ((x1 + 1) : Int32).toNatClampNeg r22) fun σ25 => ck_ (in_ (x1 + 1) 48) (if (σ25.1 (σ25.2 a0 10) ((x1 + 1) : Int32).toNatClampNeg) = (-4) then some (0, σ25) else lt_ (bz_wi σ25 a0 8 r19) fun σ29 => bd_ (f_X7_takesBlank σ29 a0) fun r30 σ31 => if r30 = 0 then some (0, σ31) else bd_ (f_X7_end σ31 a0) fun r33 σ34 => ck_ (in_ (x1 + 1) 48) (lt_ (fun (y38 : Int32) (σ39 : bz_W) => bd_ (f_X7_digitAt σ39 a0 r33 y38) fun r41 σ42 => ck_ (in_ (x1 + 2) 48) (lt_ (bz_wi σ42 (σ34.2 a0 10) ((x1 + 2) : Int32).toNatClampNeg r41) fun σ44 => ck_ (in_ (x1 + 2) 48) (if (σ44.1 (σ44.2 a0 10) ((x1 + 2) : Int32).toNatClampNeg) = (-4) then some (0, σ44) else lt_ (bz_wi σ44 a0 8 r33) fun σ48 => ck_ (in_ (x1 + 3) 48) (lt_ (bz_wi σ48 (σ48.2 a0 10) ((x1 + 3) : Int32).toNatClampNeg (-4)) fun σ51 => ck_ (in_ (x1 + 1) 48) (lt_ (fun (σ54 : bz_W) => lt_ (bz_wi σ54 a0 9 ((σ54.1 a0 9) + 1)) fun σ56 => if (σ56.1 a0 8) = (σ56.1 a0 6) then some (1, σ56) else ck_ (in_ (σ56.1 a0 8) 80) (if (σ56.1 (σ56.2 a0 7) ((σ56.1 a0 8) : Int32).toNatClampNeg) = 59 then some (1, σ56) else some (0, σ56))) fun j55 => if (σ51.1 (σ51.2 a0 10) ((x1 + 1) : Int32).toNatClampNeg) = 2 then bd_ (f_X7_takesBlank σ51 a0) fun r62 σ63 => if r62 = 0 then some (0, σ63) else bd_ (f_X7_end σ63 a0) fun r65 σ66 => bd_ (f_X7_digitAt σ66 a0 r65 7) fun r68 σ69 => ck_ (in_ (x1 + 3) 48) (lt_ (bz_wi σ69 (σ66.2 a0 10) ((x1 + 3) : Int32).toNatClampNeg r68) fun σ71 => ck_ (in_ (x1 + 3) 48) (if (σ71.1 (σ71.2 a0 10) ((x1 + 3) : Int32).toNatClampNeg) = (-4) then some (0, σ71) else lt_ (bz_wi σ71 a0 8 r65) fun σ75 => j55 σ75)) else j55 σ51))))) fun j40 => if (σ34.1 (σ34.2 a0 10) ((x1 + 1) : Int32).toNatClampNeg) = 4 then j40 1 σ34 else j40 7 σ34)))))
def Q2 (a0 : Nat) (x1 r33 y38 : Int32) (D : Nat) (σ39 : bz_W) : Option (Int32 × bz_W) := bd_ (f_X7_digitAt σ39 a0 r33 y38) fun r41 σ42 => ck_ (in_ (x1 + 2) 48) (lt_ (bz_wi σ42 D ((x1 + 2) : Int32).toNatClampNeg r41) fun σ44 => ck_ (in_ (x1 + 2) 48) (if (σ44.1 (σ44.2 a0 10) ((x1 + 2) : Int32).toNatClampNeg) = (-4) then some (0, σ44) else lt_ (bz_wi σ44 a0 8 r33) fun σ48 => ck_ (in_ (x1 + 3) 48) (lt_ (bz_wi σ48 (σ48.2 a0 10) ((x1 + 3) : Int32).toNatClampNeg (-4)) fun σ51 => ck_ (in_ (x1 + 1) 48) (lt_ (fun (σ54 : bz_W) => lt_ (bz_wi σ54 a0 9 ((σ54.1 a0 9) + 1)) fun σ56 => if (σ56.1 a0 8) = (σ56.1 a0 6) then some (1, σ56) else ck_ (in_ (σ56.1 a0 8) 80) (if (σ56.1 (σ56.2 a0 7) ((σ56.1 a0 8) : Int32).toNatClampNeg) = 59 then some (1, σ56) else some (0, σ56))) fun j55 => if (σ51.1 (σ51.2 a0 10) ((x1 + 1) : Int32).toNatClampNeg) = 2 then bd_ (f_X7_takesBlank σ51 a0) fun r62 σ63 => if r62 = 0 then some (0, σ63) else bd_ (f_X7_end σ63 a0) fun r65 σ66 => bd_ (f_X7_digitAt σ66 a0 r65 7) fun r68 σ69 => ck_ (in_ (x1 + 3) 48) (lt_ (bz_wi σ69 (σ66.2 a0 10) ((x1 + 3) : Int32).toNatClampNeg r68) fun σ71 => ck_ (in_ (x1 + 3) 48) (if (σ71.1 (σ71.2 a0 10) ((x1 + 3) : Int32).toNatClampNeg) = (-4) then some (0, σ71) else lt_ (bz_wi σ71 a0 8 r65) fun σ75 => j55 σ75)) else j55 σ51))))
def Q3 (a0 : Nat) (σ54 : bz_W) : Option (Int32 × bz_W) := lt_ (bz_wi σ54 a0 9 ((σ54.1 a0 9) + 1)) fun σ56 => if (σ56.1 a0 8) = (σ56.1 a0 6) then some (1, σ56) else ck_ (in_ (σ56.1 a0 8) 80) (if (σ56.1 (σ56.2 a0 7) ((σ56.1 a0 8) : Int32).toNatClampNeg) = 59 then some (1, σ56) else some (0, σ56))
def TS (X V M W D : Nat) (σ τ : bz_W) (l p n last : Nat) : Prop := (σ.2 X 0 = V ∧ σ.1 X 1 = nI l ∧ σ.1 X 2 = nI p ∧ σ.1 X 3 = nI last) ∧ (τ.2 M 7 = W ∧ τ.2 M 10 = D ∧ τ.1 M 6 = nI l ∧ τ.1 M 8 = nI p ∧ τ.1 M 9 = nI n) ∧ (n = 0 → last = 0) ∧ (0 < n → τ.1 D (4 * n - 4) = nI last) ∧ last ≤ 9999 ∧ l ≤ 80 ∧ p ≤ l ∧ n ≤ 10 ∧ ∀ j, j < l → σ.1 V j = τ.1 W j
/-- what reading may change -/
def FC (X : Nat) (σ σ' : bz_W) : Prop := σ'.2 = σ.2 ∧ (∀ x, x ≠ X → σ'.1 x = σ.1 x) ∧ σ'.1 X 1 = σ.1 X 1 ∧ σ'.1 X 0 = σ.1 X 0
def FM (M D n : Nat) (τ τ' : bz_W) : Prop := τ'.2 = τ.2 ∧ (∀ x, x ≠ M → x ≠ D → τ'.1 x = τ.1 x) ∧ (∀ w, w ≠ 8 → w ≠ 9 → τ'.1 M w = τ.1 M w) ∧ ∀ j, j < 4 * n → τ'.1 D j = τ.1 D j
theorem FC.refl (X : Nat) (σ : bz_W) : FC X σ σ := ⟨rfl, fun _ _ => rfl, rfl, rfl⟩
theorem FC.wi {X : Nat} {σ σ' : bz_W} (h : FC X σ σ') {k : Nat} (v : Int32) (hk : 2 ≤ k) : FC X σ (bz_wi σ' X k v) := ⟨h.1, fun x hx => by rw [wi_o _ _ _ hx]; exact h.2.1 x hx, by rw [wi_so _ _ (by omega)]; exact h.2.2.1, by rw [wi_so _ _ (by omega)]; exact h.2.2.2⟩
theorem FM.refl (M D n : Nat) (τ : bz_W) : FM M D n τ τ := ⟨rfl, fun _ _ _ => rfl, fun _ _ _ => rfl, fun _ _ => rfl⟩
theorem FM.wiM {M D n : Nat} {τ τ' : bz_W} (h : FM M D n τ τ') (hd : M ≠ D) {k : Nat} (v : Int32) (hk : k = 8 ∨ k = 9) : FM M D n τ (bz_wi τ' M k v) := ⟨h.1, fun x h1 h2 => by rw [wi_o _ _ _ h1]; exact h.2.1 x h1 h2, fun w h1 h2 => by rw [wi_so _ _ (by omega)]; exact h.2.2.1 w h1 h2, fun j hj => by rw [wi_o _ _ _ (Ne.symm hd)]; exact h.2.2.2 j hj⟩
theorem FM.wiD {M D n : Nat} {τ τ' : bz_W} (h : FM M D n τ τ') (hd : M ≠ D) {k : Nat} (v : Int32) (hk : 4 * n ≤ k) : FM M D n τ (bz_wi τ' D k v) := ⟨h.1, fun x h1 h2 => by rw [wi_o _ _ _ h2]; exact h.2.1 x h1 h2, fun w h1 h2 => by rw [wi_o _ _ _ hd]; exact h.2.2.1 w h1 h2, fun j hj => by rw [wi_so _ _ (by omega)]; exact h.2.2.2 j hj⟩
theorem reads_Q1 {X V M W D l p n last e : Nat} {σ τ : bz_W} (h : TS X V M W D σ τ l p n last) (he : f_X7_end τ M = some (nI e, τ)) : f_X7_readsItem τ M = Q1 M (nI (4 * n)) (nI e) (nI last) D τ := by
  obtain ⟨-, ⟨h7, h10, h6, h8, h9⟩, hn0, hn1, hla, hl, hp, hn, -⟩ := h
  have e4 : (4 : Int32) * nI n = nI (4 * n) := pk_mul 4 n
  unfold f_X7_readsItem
  rw [h9, e4, lt_n, he, bd_n, lt_n, h9]
  by_cases h0 : n = 0
  · have := hn0 h0
    subst h0
    rw [this, if_pos (show nI 0 = (0 : Int32) from rfl), h10]
    rfl
  · have e5 : nI (4 * n) - 4 = nI (4 * n - 4) := pk_sub2 (b := 4) (by omega)
    rw [if_neg (nI_ne0 (by omega) (by omega)), e5, in_nI (by omega) (by omega), ck_n, nI_clamp (n := 4 * n - 4) (by omega), h10, hn1 (by omega)]
    rfl

/-- numbers: from the blank after the word on -/
def NR (X V M W D l p n : Nat) (σ τ : bz_W) (w : Nat) : Prop := (σ.2 X 0 = V ∧ σ.1 X 1 = nI l ∧ σ.1 X 2 = nI p ∧ σ.1 X 4 = nI w) ∧ (τ.2 M 7 = W ∧ τ.2 M 10 = D ∧ τ.1 M 6 = nI l ∧ τ.1 M 8 = nI p ∧ τ.1 M 9 = nI n) ∧ τ.1 D (4 * n + 1) = nI w ∧ w ≤ 4 ∧ l ≤ 80 ∧ p ≤ l ∧ n ≤ 10 ∧ M ≠ D ∧ ∀ j, j < l → σ.1 V j = τ.1 W j
theorem t_second {X V M W D l p n w : Nat} {σ τ : bz_W} (h : NR X V M W D l p n σ τ w) (hXV : X ≠ V) (hMW : M ≠ W) (hDW : D ≠ W) : ∃ e, p ≤ e ∧ e ≤ l ∧ f_X5_partEnd σ X = some (nI e, σ) ∧ f_X7_end τ M = some (nI e, τ) := by
  obtain ⟨⟨a1, a2, a3, a4⟩, ⟨b1, b2, b3, b4, b5⟩, c1, c2, c3, c4, c5, c6, c7⟩ := h
  exact t_end a1 a2 a3 b1 b3 b4 c3 c4 c7
def BS (X V M W D l n : Nat) (σ τ : bz_W) (p : Nat) : Prop := (σ.2 X 0 = V ∧ σ.1 X 1 = nI l ∧ σ.1 X 2 = nI p) ∧ (τ.2 M 7 = W ∧ τ.2 M 10 = D ∧ τ.1 M 6 = nI l ∧ τ.1 M 8 = nI p ∧ τ.1 M 9 = nI n) ∧ ∀ j, j < l → σ.1 V j = τ.1 W j
section IR
variable {X V M W D l n p e : Nat} {σ τ : bz_W}
theorem BS.next {σ' τ' : bz_W} {p' : Nat} (h : BS X V M W D l n σ τ p) (hF : FC X σ σ') (hM : FM M D n τ τ') (hXV : X ≠ V) (hMW : M ≠ W) (hDW : D ≠ W) (h1 : σ'.1 X 2 = nI p') (h2 : τ'.1 M 8 = nI p') (h3 : τ'.1 M 9 = nI n) : BS X V M W D l n σ' τ' p' := by
  obtain ⟨⟨a1, a2, a3⟩, ⟨b1, b2, b3, b4, b5⟩, c⟩ := h
  exact ⟨⟨by rw [hF.1, a1], by rw [hF.2.2.1, a2], h1⟩, ⟨by rw [hM.1, b1], by rw [hM.1, b2], by rw [hM.2.2.1 6 (by omega) (by omega), b3], h2, h3⟩, fun j hj => by rw [hF.2.1 V (Ne.symm hXV), hM.2.1 W (Ne.symm hMW) (Ne.symm hDW)]; exact c j hj⟩
theorem BS.end (h : BS X V M W D l n σ τ p) (hl : l ≤ 80) (hp : p ≤ l) : ∃ e, p ≤ e ∧ e ≤ l ∧ f_X5_partEnd σ X = some (nI e, σ) ∧ f_X7_end τ M = some (nI e, τ) := t_end h.1.1 h.1.2.1 h.1.2.2 h.2.1.1 h.2.1.2.2.1 h.2.1.2.2.2.1 hl hp h.2.2
theorem BS.blank (h : BS X V M W D l n σ τ p) (hl : l ≤ 80) (hp : p ≤ l) : (f_X5_readBlank σ X = some (0, σ) ∧ f_X7_takesBlank τ M = some (0, τ)) ∨ (p < l ∧ f_X5_readBlank σ X = some (1, bz_wi σ X 2 (nI (p + 1))) ∧ f_X7_takesBlank τ M = some (1, bz_wi τ M 8 (nI (p + 1)))) := t_blank h.1.1 h.1.2.1 h.1.2.2 h.2.1.1 h.2.1.2.2.1 h.2.1.2.2.2.1 hl hp h.2.2
theorem BS.word (h : BS X V M W D l n σ τ p) (hl : l ≤ 80) (he1 : p ≤ e) (he2 : e ≤ l) (he : f_X5_partEnd σ X = some (nI e, σ)) : (f_X5_readOrder σ X = some (0, σ) ∧ f_X7_wordAt τ M (nI e) = some (-4, τ)) ∨ ∃ w, w ≤ 4 ∧ p + 3 ≤ e ∧ f_X5_readOrder σ X = some (1, bz_wi (bz_wi σ X 4 (nI w)) X 2 (nI e)) ∧ f_X7_wordAt τ M (nI e) = some (nI w, τ) := t_word h.1.1 h.1.2.2 h.2.1.1 h.2.1.2.2.2.1 hl he1 he2 h.2.2 he
theorem BS.digit (h : BS X V M W D l n σ τ p) (hl : l ≤ 80) (he1 : p ≤ e) (he2 : e ≤ l) (he : f_X5_partEnd σ X = some (nI e, σ)) {mx : Nat} (hmx : mx ≤ 7) : (f_X5_readDigit σ X (nI (48 + mx)) = some (-4, σ) ∧ f_X7_digitAt τ M (nI e) (nI mx) = some (-4, τ)) ∨ ∃ d, d ≤ mx ∧ e = p + 1 ∧ f_X5_readDigit σ X (nI (48 + mx)) = some (nI d, bz_wi σ X 2 (nI e)) ∧ f_X7_digitAt τ M (nI e) (nI mx) = some (nI d, τ) := t_digit h.1.1 h.1.2.2 h.2.1.1 h.2.1.2.2.2.1 hl he1 he2 h.2.2 he hmx
theorem nI_m4 {k : Nat} (h : k < 2 ^ 31) : ¬ nI k = -4 := fun e => by
  have := nI_pos h
  rw [e] at this
  exact this (by decide)
/-- numbers, from the digit on -/
theorem nums_read (h : BS X V M W D l n σ τ p) (hl : l ≤ 80) (hp : p ≤ l) (hn : n ≤ 10) (hXV : X ≠ V) (hMW : M ≠ W) (hDW : D ≠ W) (hMD : M ≠ D) {w : Nat} (hw : w ≤ 4) (h4 : σ.1 X 4 = nI w) (hD1 : τ.1 D (4 * n + 1) = nI w) : (∃ σ' τ' p', f_X5_readNumbers σ X = some (0, σ') ∧ (bd_ (f_X7_end τ M) fun r33 σ34 => Q2 M (nI (4 * n)) r33 (if w = 4 then 1 else 7) D σ34) = some (0, τ') ∧ σ'.1 X 2 = nI p' ∧ τ'.1 M 8 = nI p' ∧ FC X σ σ' ∧ FM M D n τ τ') ∨ (∃ σ' τ' p' f x, f_X5_readNumbers σ X = some (1, σ') ∧ (bd_ (f_X7_end τ M) fun r33 σ34 => Q2 M (nI (4 * n)) r33 (if w = 4 then 1 else 7) D σ34) = Q3 M τ' ∧ p + 1 ≤ p' ∧ p' ≤ l ∧ f ≤ 7 ∧ (w = 4 → f ≤ 1) ∧ (if w = 2 then ∃ q : Nat, q ≤ 7 ∧ x = nI q else x = -4) ∧ (σ'.1 X 2 = nI p' ∧ σ'.1 X 3 = σ.1 X 3 ∧ σ'.1 X 4 = nI w ∧ σ'.1 X 5 = nI f ∧ σ'.1 X 6 = x) ∧ (τ'.1 M 8 = nI p' ∧ τ'.1 M 9 = nI n ∧ τ'.1 D (4 * n) = τ.1 D (4 * n) ∧ τ'.1 D (4 * n + 1) = nI w ∧ τ'.1 D (4 * n + 2) = nI f ∧ τ'.1 D (4 * n + 3) = x) ∧ FC X σ σ' ∧ FM M D n τ τ') := by
  have e1 : nI (4 * n) + 1 = nI (4 * n + 1) := nI_1 _
  have e2 : nI (4 * n) + 2 = nI (4 * n + 2) := nI_add _ 2
  have e3 : nI (4 * n) + 3 = nI (4 * n + 3) := nI_add _ 3
  have hDM : D ≠ M := Ne.symm hMD
  unfold f_X5_readNumbers
  rw [lt_n, lt_n]
  obtain ⟨s1, es1⟩ : ∃ s, s = bz_wi σ X 6 (-4) := ⟨_, rfl⟩
  rw [← es1]
  have F1 : FC X σ s1 := by rw [es1]; exact (FC.refl X σ).wi _ (by omega)
  have B1 : BS X V M W D l n s1 τ p := h.next F1 (FM.refl M D n τ) hXV hMW hDW (by rw [es1, wi_so _ _ (by omega)]; exact h.1.2.2) h.2.1.2.2.2.1 h.2.1.2.2.2.2
  have s14 : s1.1 X 4 = nI w := by rw [es1, wi_so _ _ (by omega)]; exact h4
  have s13 : s1.1 X 3 = σ.1 X 3 := by rw [es1, wi_so _ _ (by omega)]
  have s16 : s1.1 X 6 = -4 := by rw [es1, wi_ss]
  obtain ⟨e, he1, he2, hec, hem⟩ := B1.end hl hp
  obtain ⟨mx, emx⟩ : ∃ mx : Nat, mx = if w = 4 then 1 else 7 := ⟨_, rfl⟩
  have hmx : mx ≤ 7 := by rw [emx]; split <;> omega
  have hy : (if w = 4 then (1 : Int32) else 7) = nI mx := by rw [emx]; split <;> rfl
  have hcl : (if s1.1 X 4 = 4 then (49 : Int32) else 55) = nI (48 + mx) := by
    rw [s14, emx]
    by_cases q : w = 4
    · rw [if_pos q, if_pos (by rw [q]; rfl)]; rfl
    · rw [if_neg q, if_neg (show ¬ nI w = (4 : Int32) from fun c => q ((nI_eq (b := 4) (by omega) (by omega)).mp c))]; rfl
  rw [hem, bd_n, hy]
  unfold Q2
  have core : ∀ oc : Option (Int32 × bz_W), oc = (bd_ (f_X5_readDigit s1 X (nI (48 + mx))) fun r5 σ6 => lt_ (bz_wi σ6 X 5 r5) fun σ7 => if (σ7.1 X 5) = (-4) then if (σ7.1 X 5) = (-4) then some (0, σ7) else some (1, σ7) else if (σ7.1 X 4) = 2 then bd_ (f_X5_readBlank σ7 X) fun r11 σ12 => if r11 = 0 then some (0, σ12) else bd_ (f_X5_readDigit σ12 X 55) fun r14 σ15 => lt_ (bz_wi σ15 X 6 r14) fun σ16 => if (σ16.1 X 6) = (-4) then some (0, σ16) else some (1, σ16) else if (σ7.1 X 5) = (-4) then some (0, σ7) else some (1, σ7)) → oc = (if s1.1 X 4 = 4 then (fun (y2 : Int32) (σ3 : bz_W) => bd_ (f_X5_readDigit σ3 X y2) fun r5 σ6 => lt_ (bz_wi σ6 X 5 r5) fun σ7 => if (σ7.1 X 5) = (-4) then if (σ7.1 X 5) = (-4) then some (0, σ7) else some (1, σ7) else if (σ7.1 X 4) = 2 then bd_ (f_X5_readBlank σ7 X) fun r11 σ12 => if r11 = 0 then some (0, σ12) else bd_ (f_X5_readDigit σ12 X 55) fun r14 σ15 => lt_ (bz_wi σ15 X 6 r14) fun σ16 => if (σ16.1 X 6) = (-4) then some (0, σ16) else some (1, σ16) else if (σ7.1 X 5) = (-4) then some (0, σ7) else some (1, σ7)) 49 s1 else (fun (y2 : Int32) (σ3 : bz_W) => bd_ (f_X5_readDigit σ3 X y2) fun r5 σ6 => lt_ (bz_wi σ6 X 5 r5) fun σ7 => if (σ7.1 X 5) = (-4) then if (σ7.1 X 5) = (-4) then some (0, σ7) else some (1, σ7) else if (σ7.1 X 4) = 2 then bd_ (f_X5_readBlank σ7 X) fun r11 σ12 => if r11 = 0 then some (0, σ12) else bd_ (f_X5_readDigit σ12 X 55) fun r14 σ15 => lt_ (bz_wi σ15 X 6 r14) fun σ16 => if (σ16.1 X 6) = (-4) then some (0, σ16) else some (1, σ16) else if (σ7.1 X 5) = (-4) then some (0, σ7) else some (1, σ7)) 55 s1) := by
    intro oc ho
    rw [ho, ← hcl]
    by_cases q : s1.1 X 4 = 4
    · rw [if_pos q, if_pos q]
    · rw [if_neg q, if_neg q]
  rw [← core _ rfl]
  clear core
  rcases B1.digit hl he1 he2 hec hmx with ⟨g1, g2⟩ | ⟨d, d1, d2, g1, g2⟩
  · rw [g1, g2, bd_n, bd_n, lt_n, wi_ss, if_pos rfl, if_pos rfl, e2, in_nI (by omega) (by omega), ck_n, lt_n, ck_n, nI_clamp (by omega), wi_2, h.2.1.2.1, wi_ss, if_pos rfl]
    exact Or.inl ⟨_, _, p, rfl, rfl, by rw [wi_so _ _ (by omega)]; exact B1.1.2.2, by rw [wi_o _ _ _ hMD]; exact h.2.1.2.2.2.1, F1.wi _ (by omega), (FM.refl M D n τ).wiD hMD _ (by omega)⟩
  · rw [g1, g2, bd_n, bd_n, lt_n, wi_ss, if_neg (nI_m4 (by omega)), wi_so _ _ (show 4 ≠ 5 by omega), wi_so _ _ (show 4 ≠ 2 by omega), s14, e2, in_nI (by omega) (by omega), ck_n, lt_n, ck_n, nI_clamp (by omega), wi_2, h.2.1.2.1, wi_ss, if_neg (nI_m4 (by omega)), lt_n, e3, in_nI (by omega) (by omega), ck_n, lt_n, wi_2, wi_2, h.2.1.2.1, nI_clamp (by omega), e1, in_nI (by omega) (by omega), ck_n, lt_n, wi_2, wi_2, wi_2, h.2.1.2.1, nI_clamp (by omega), wi_so _ _ (show 4 * n + 1 ≠ 4 * n + 3 by omega), wi_o _ _ _ hDM, wi_so _ _ (show 4 * n + 1 ≠ 4 * n + 2 by omega), hD1]
    obtain ⟨s2, es2⟩ : ∃ s, s = bz_wi (bz_wi s1 X 2 (nI e)) X 5 (nI d) := ⟨_, rfl⟩
    obtain ⟨t2, et2⟩ : ∃ s, s = bz_wi (bz_wi (bz_wi τ D (4 * n + 2) (nI d)) M 8 (nI e)) D (4 * n + 3) (-4) := ⟨_, rfl⟩
    rw [← es2, ← et2]
    have hw2 : (nI w = (2 : Int32)) ↔ w = 2 := nI_eq (b := 2) (by omega) (by omega)
    have G2 : FC X σ s2 := by rw [es2]; exact (F1.wi _ (by omega)).wi _ (by omega)
    have H2 : FM M D n τ t2 := by rw [et2]; exact (((FM.refl M D n τ).wiD hMD _ (by omega)).wiM hMD _ (Or.inl rfl)).wiD hMD _ (by omega)
    have x2 : s2.1 X 2 = nI e := by rw [es2, wi_so _ _ (by omega), wi_ss]
    have x3 : s2.1 X 3 = σ.1 X 3 := by rw [es2, wi_so _ _ (by omega), wi_so _ _ (by omega), s13]
    have x4 : s2.1 X 4 = nI w := by rw [es2, wi_so _ _ (by omega), wi_so _ _ (by omega), s14]
    have x5 : s2.1 X 5 = nI d := by rw [es2, wi_ss]
    have x6 : s2.1 X 6 = -4 := by rw [es2, wi_so _ _ (by omega), wi_so _ _ (by omega), s16]
    have y8 : t2.1 M 8 = nI e := by rw [et2, wi_o _ _ _ hMD, wi_ss]
    have y9 : t2.1 M 9 = nI n := by rw [et2, wi_o _ _ _ hMD, wi_so _ _ (by omega), wi_o _ _ _ hMD]; exact h.2.1.2.2.2.2
    have z0 : t2.1 D (4 * n) = τ.1 D (4 * n) := by rw [et2, wi_so _ _ (by omega), wi_o _ _ _ hDM, wi_so _ _ (by omega)]
    have z1 : t2.1 D (4 * n + 1) = nI w := by rw [et2, wi_so _ _ (by omega), wi_o _ _ _ hDM, wi_so _ _ (by omega), hD1]
    have z2 : t2.1 D (4 * n + 2) = nI d := by rw [et2, wi_so _ _ (by omega), wi_o _ _ _ hDM, wi_ss]
    have z3 : t2.1 D (4 * n + 3) = -4 := by rw [et2, wi_ss]
    have B2 : BS X V M W D l n s2 t2 e := h.next G2 H2 hXV hMW hDW x2 y8 y9
    by_cases q2 : w = 2
    · have hq : nI w = (2 : Int32) := hw2.mpr q2
      rw [if_neg (show ¬ nI d = -4 from nI_m4 (by omega)), if_pos hq, if_pos hq]
      rcases B2.blank hl he2 with ⟨k1, k2⟩ | ⟨k0, k1, k2⟩
      · rw [k1, k2, bd_n, bd_n, if_pos rfl, if_pos rfl]
        exact Or.inl ⟨s2, t2, e, rfl, rfl, x2, y8, G2, H2⟩
      · rw [k1, k2, bd_n, bd_n, if_neg (show ¬ (1 : Int32) = 0 by decide), if_neg (show ¬ (1 : Int32) = 0 by decide)]
        obtain ⟨s3, es3⟩ : ∃ s, s = bz_wi s2 X 2 (nI (e + 1)) := ⟨_, rfl⟩
        obtain ⟨t3, et3⟩ : ∃ s, s = bz_wi t2 M 8 (nI (e + 1)) := ⟨_, rfl⟩
        rw [← es3, ← et3]
        have G3 : FC X σ s3 := by rw [es3]; exact G2.wi _ (by omega)
        have H3 : FM M D n τ t3 := by rw [et3]; exact H2.wiM hMD _ (Or.inl rfl)
        have B3 : BS X V M W D l n s3 t3 (e + 1) := h.next G3 H3 hXV hMW hDW (by rw [es3, wi_ss]) (by rw [et3, wi_ss]) (by rw [et3, wi_so _ _ (by omega)]; exact y9)
        obtain ⟨e', f1, f2, f3, f4⟩ := B3.end hl k0
        have h55 : (55 : Int32) = nI (48 + 7) := rfl
        have h7 : (7 : Int32) = nI 7 := rfl
        rw [f4, bd_n, h55, h7]
        rcases B3.digit hl f1 f2 f3 (mx := 7) (by omega) with ⟨u1, u2⟩ | ⟨d', v1, v2, u1, u2⟩
        · rw [u1, u2, bd_n, bd_n, lt_n, wi_ss, if_pos rfl, ck_n, lt_n, ck_n, wi_2, B3.2.1.2.1, wi_ss, if_pos rfl]
          exact Or.inl ⟨_, _, e + 1, rfl, rfl, by rw [wi_so _ _ (by omega), es3, wi_ss], by rw [wi_o _ _ _ hMD, et3, wi_ss], G3.wi _ (by omega), H3.wiD hMD _ (by omega)⟩
        · rw [u1, u2, bd_n, bd_n, lt_n, wi_ss, if_neg (show ¬ nI d' = -4 from nI_m4 (by omega)), ck_n, lt_n, ck_n, wi_2, B3.2.1.2.1, wi_ss, if_neg (show ¬ nI d' = -4 from nI_m4 (by omega)), lt_n]
          refine Or.inr ⟨_, _, e', d, nI d', rfl, rfl, by omega, f2, by omega, fun c => by omega, by rw [if_pos q2]; exact ⟨d', v1, rfl⟩, ⟨by rw [wi_so _ _ (by omega), wi_ss], by rw [wi_so _ _ (by omega), wi_so _ _ (by omega), es3, wi_so _ _ (by omega), x3], by rw [wi_so _ _ (by omega), wi_so _ _ (by omega), es3, wi_so _ _ (by omega), x4], by rw [wi_so _ _ (by omega), wi_so _ _ (by omega), es3, wi_so _ _ (by omega), x5], by rw [wi_ss]⟩, ⟨by rw [wi_ss], by rw [wi_so _ _ (by omega), wi_o _ _ _ hMD, et3, wi_so _ _ (by omega), y9], by rw [wi_o _ _ _ hDM, wi_so _ _ (by omega), et3, wi_o _ _ _ hDM, z0], by rw [wi_o _ _ _ hDM, wi_so _ _ (by omega), et3, wi_o _ _ _ hDM, z1], by rw [wi_o _ _ _ hDM, wi_so _ _ (by omega), et3, wi_o _ _ _ hDM, z2], by rw [wi_o _ _ _ hDM, wi_ss]⟩, (G3.wi _ (by omega)).wi _ (by omega), (H3.wiD hMD _ (by omega)).wiM hMD _ (Or.inl rfl)⟩
    · have hq : ¬ nI w = (2 : Int32) := fun c => q2 (hw2.mp c)
      rw [if_neg hq, if_neg hq, if_neg (nI_m4 (by omega))]
      refine Or.inr ⟨s2, t2, e, d, -4, rfl, rfl, by omega, he2, by omega, fun c => ?_, by rw [if_neg q2], ⟨x2, x3, x4, x5, x6⟩, ⟨y8, y9, z0, z1, z2, z3⟩, G2, H2⟩
      rw [if_pos c] at emx
      omega
end IR
