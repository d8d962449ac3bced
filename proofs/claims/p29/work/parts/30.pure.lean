/-! PURE: from here on nothing of the machine; partial functions on memories -/
theorem lt_d {α β : Type} (e : α) (k : α → β) : lt_ e k = k e := rfl
theorem ck_t {α : Type} (k : Option α) : ck_ true k = k := rfl
theorem bd_s {α β : Type} (a : α) (s : bz_W) (k : α → bz_W → Option β) : bd_ (some (a, s)) k = k a s := rfl
theorem in_nI {i n : Nat} (h : i < n) (hi : i < 2 ^ 31) : in_ (nI i) n = true := by
  have := nI_toInt (n := i) hi
  simp [in_, this]
  omega
theorem wi_2 (σ : bz_W) (a k : Nat) (v : Int32) : (bz_wi σ a k v).2 = σ.2 := rfl
theorem wb_2 (σ : bz_W) (a : Nat) (f : Nat → Int32) : (bz_wb σ a f).2 = σ.2 := rfl
theorem wr_1 (σ : bz_W) (a k r : Nat) : (bz_wr σ a k r).1 = σ.1 := rfl
theorem wb_s (σ : bz_W) (a : Nat) (f : Nat → Int32) : (bz_wb σ a f).1 a = f := by simp [bz_wb]
theorem wb_o (σ : bz_W) {a b : Nat} (f : Nat → Int32) (h : b ≠ a) : (bz_wb σ a f).1 b = σ.1 b := by simp [bz_wb, h]
theorem wi_o (σ : bz_W) {a b : Nat} (k : Nat) (v : Int32) (h : b ≠ a) : (bz_wi σ a k v).1 b = σ.1 b := by simp [bz_wi, h]
theorem wi_s (σ : bz_W) (a k : Nat) (v : Int32) : (bz_wi σ a k v).1 a = upd (σ.1 a) k v := by simp [bz_wi]
theorem wi_ss (σ : bz_W) (a k : Nat) (v : Int32) : (bz_wi σ a k v).1 a k = v := by simp [bz_wi, upd]
theorem wi_so (σ : bz_W) {a k j : Nat} (v : Int32) (h : j ≠ k) : (bz_wi σ a k v).1 a j = σ.1 a j := by simp [bz_wi, upd, h]
theorem wi_wb (σ : bz_W) (a k : Nat) (f : Nat → Int32) (v : Int32) : bz_wi (bz_wb σ a f) a k v = bz_wb σ a (upd f k v) := by
  unfold bz_wi bz_wb
  ext1
  · funext b
    by_cases h : b = a <;> simp [h]
  · rfl
theorem wb_wb (σ : bz_W) (a : Nat) (f g : Nat → Int32) : bz_wb (bz_wb σ a f) a g = bz_wb σ a g := by
  unfold bz_wb
  ext1
  · funext b
    by_cases h : b = a <;> simp [h]
  · rfl
theorem wb_id (σ : bz_W) (a : Nat) : bz_wb σ a (σ.1 a) = σ := by
  unfold bz_wb
  ext1
  · funext b
    by_cases h : b = a <;> simp [h]
  · rfl
theorem up_s (f : Nat → Int32) (k : Nat) (v : Int32) : upd f k v k = v := by simp [upd]
theorem up_o (f : Nat → Int32) {k j : Nat} (v : Int32) (h : j ≠ k) : upd f k v j = f j := by simp [upd, h]
theorem up_up (f : Nat → Int32) (k : Nat) (v w : Int32) : upd (upd f k v) k w = upd f k w := by
  funext j
  by_cases h : j = k <;> simp [upd, h]
theorem nI_lit (n : Nat) : (OfNat.ofNat n : Int32) = nI n := rfl
-- the row of a motor: 8 + 20 i + w
theorem ix_m (i w : Nat) : (8 : Int32) + 20 * nI i + nI w = nI (8 + 20 * i + w) := by
  show nI 8 + nI 20 * nI i + nI w = _
  rw [pk_mul, nI_add, nI_add]
section MOD
variable {τ : bz_W} {M N i : Nat} {r : Nat → Int32}
theorem m_of (hN : τ.2 M 0 = N) (hi : i < 8) (w : Nat) (hw : w < 20) {x : Int32} (hx : x = nI w) : f_X7_of (bz_wb τ N r) M (nI i) x = some (r (8 + 20 * i + w), bz_wb τ N r) := by
  subst hx
  unfold f_X7_of
  rw [ix_m, in_nI (by omega) (by omega), ck_t, wb_2, hN, nI_clamp (by omega), wb_s]
theorem m_put (hN : τ.2 M 0 = N) (hi : i < 8) (w : Nat) (hw : w < 20) {x v : Int32} (hx : x = nI w) : f_X7_put (bz_wb τ N r) M (nI i) x v = some (0, bz_wb τ N (upd r (8 + 20 * i + w) v)) := by
  subst hx
  unfold f_X7_put
  rw [ix_m, in_nI (by omega) (by omega), ck_t, lt_d, wb_2, hN, nI_clamp (by omega), wi_wb]
theorem m_more (hN : τ.2 M 0 = N) (hi : i < 8) (w : Nat) (hw : w < 20) {x v : Int32} (hx : x = nI w) : f_X7_more (bz_wb τ N r) M (nI i) x v = some (0, bz_wb τ N (upd r (8 + 20 * i + w) (r (8 + 20 * i + w) + v))) := by
  subst hx
  unfold f_X7_more
  simp only [lt_d]
  rw [ix_m, in_nI (by omega) (by omega), ck_t, ck_t, wb_2, hN, nI_clamp (by omega), wi_wb, wb_s]
theorem m_of0 (hN : τ.2 M 0 = N) (hi : i < 8) : f_X7_of (bz_wb τ N r) M (nI i) 0 = some (r (8 + 20 * i + 0), bz_wb τ N r) := m_of hN hi 0 (by decide) rfl
theorem m_of1 (hN : τ.2 M 0 = N) (hi : i < 8) : f_X7_of (bz_wb τ N r) M (nI i) 1 = some (r (8 + 20 * i + 1), bz_wb τ N r) := m_of hN hi 1 (by decide) rfl
theorem m_of2 (hN : τ.2 M 0 = N) (hi : i < 8) : f_X7_of (bz_wb τ N r) M (nI i) 2 = some (r (8 + 20 * i + 2), bz_wb τ N r) := m_of hN hi 2 (by decide) rfl
theorem m_of3 (hN : τ.2 M 0 = N) (hi : i < 8) : f_X7_of (bz_wb τ N r) M (nI i) 3 = some (r (8 + 20 * i + 3), bz_wb τ N r) := m_of hN hi 3 (by decide) rfl
theorem m_of4 (hN : τ.2 M 0 = N) (hi : i < 8) : f_X7_of (bz_wb τ N r) M (nI i) 4 = some (r (8 + 20 * i + 4), bz_wb τ N r) := m_of hN hi 4 (by decide) rfl
theorem m_of5 (hN : τ.2 M 0 = N) (hi : i < 8) : f_X7_of (bz_wb τ N r) M (nI i) 5 = some (r (8 + 20 * i + 5), bz_wb τ N r) := m_of hN hi 5 (by decide) rfl
theorem m_of6 (hN : τ.2 M 0 = N) (hi : i < 8) : f_X7_of (bz_wb τ N r) M (nI i) 6 = some (r (8 + 20 * i + 6), bz_wb τ N r) := m_of hN hi 6 (by decide) rfl
theorem m_of7 (hN : τ.2 M 0 = N) (hi : i < 8) : f_X7_of (bz_wb τ N r) M (nI i) 7 = some (r (8 + 20 * i + 7), bz_wb τ N r) := m_of hN hi 7 (by decide) rfl
theorem m_of8 (hN : τ.2 M 0 = N) (hi : i < 8) : f_X7_of (bz_wb τ N r) M (nI i) 8 = some (r (8 + 20 * i + 8), bz_wb τ N r) := m_of hN hi 8 (by decide) rfl
theorem m_of9 (hN : τ.2 M 0 = N) (hi : i < 8) : f_X7_of (bz_wb τ N r) M (nI i) 9 = some (r (8 + 20 * i + 9), bz_wb τ N r) := m_of hN hi 9 (by decide) rfl
theorem m_of10 (hN : τ.2 M 0 = N) (hi : i < 8) : f_X7_of (bz_wb τ N r) M (nI i) 10 = some (r (8 + 20 * i + 10), bz_wb τ N r) := m_of hN hi 10 (by decide) rfl
theorem m_of11 (hN : τ.2 M 0 = N) (hi : i < 8) : f_X7_of (bz_wb τ N r) M (nI i) 11 = some (r (8 + 20 * i + 11), bz_wb τ N r) := m_of hN hi 11 (by decide) rfl
theorem m_of12 (hN : τ.2 M 0 = N) (hi : i < 8) : f_X7_of (bz_wb τ N r) M (nI i) 12 = some (r (8 + 20 * i + 12), bz_wb τ N r) := m_of hN hi 12 (by decide) rfl
theorem m_of13 (hN : τ.2 M 0 = N) (hi : i < 8) : f_X7_of (bz_wb τ N r) M (nI i) 13 = some (r (8 + 20 * i + 13), bz_wb τ N r) := m_of hN hi 13 (by decide) rfl
theorem m_of14 (hN : τ.2 M 0 = N) (hi : i < 8) : f_X7_of (bz_wb τ N r) M (nI i) 14 = some (r (8 + 20 * i + 14), bz_wb τ N r) := m_of hN hi 14 (by decide) rfl
theorem m_of15 (hN : τ.2 M 0 = N) (hi : i < 8) : f_X7_of (bz_wb τ N r) M (nI i) 15 = some (r (8 + 20 * i + 15), bz_wb τ N r) := m_of hN hi 15 (by decide) rfl
theorem m_of16 (hN : τ.2 M 0 = N) (hi : i < 8) : f_X7_of (bz_wb τ N r) M (nI i) 16 = some (r (8 + 20 * i + 16), bz_wb τ N r) := m_of hN hi 16 (by decide) rfl
theorem m_of17 (hN : τ.2 M 0 = N) (hi : i < 8) : f_X7_of (bz_wb τ N r) M (nI i) 17 = some (r (8 + 20 * i + 17), bz_wb τ N r) := m_of hN hi 17 (by decide) rfl
theorem m_of18 (hN : τ.2 M 0 = N) (hi : i < 8) : f_X7_of (bz_wb τ N r) M (nI i) 18 = some (r (8 + 20 * i + 18), bz_wb τ N r) := m_of hN hi 18 (by decide) rfl
theorem m_put0 (hN : τ.2 M 0 = N) (hi : i < 8) {v : Int32} : f_X7_put (bz_wb τ N r) M (nI i) 0 v = some (0, bz_wb τ N (upd r (8 + 20 * i + 0) v)) := m_put hN hi 0 (by decide) rfl
theorem m_more0 (hN : τ.2 M 0 = N) (hi : i < 8) {v : Int32} : f_X7_more (bz_wb τ N r) M (nI i) 0 v = some (0, bz_wb τ N (upd r (8 + 20 * i + 0) (r (8 + 20 * i + 0) + v))) := m_more hN hi 0 (by decide) rfl
theorem m_put1 (hN : τ.2 M 0 = N) (hi : i < 8) {v : Int32} : f_X7_put (bz_wb τ N r) M (nI i) 1 v = some (0, bz_wb τ N (upd r (8 + 20 * i + 1) v)) := m_put hN hi 1 (by decide) rfl
theorem m_more1 (hN : τ.2 M 0 = N) (hi : i < 8) {v : Int32} : f_X7_more (bz_wb τ N r) M (nI i) 1 v = some (0, bz_wb τ N (upd r (8 + 20 * i + 1) (r (8 + 20 * i + 1) + v))) := m_more hN hi 1 (by decide) rfl
theorem m_put2 (hN : τ.2 M 0 = N) (hi : i < 8) {v : Int32} : f_X7_put (bz_wb τ N r) M (nI i) 2 v = some (0, bz_wb τ N (upd r (8 + 20 * i + 2) v)) := m_put hN hi 2 (by decide) rfl
theorem m_more2 (hN : τ.2 M 0 = N) (hi : i < 8) {v : Int32} : f_X7_more (bz_wb τ N r) M (nI i) 2 v = some (0, bz_wb τ N (upd r (8 + 20 * i + 2) (r (8 + 20 * i + 2) + v))) := m_more hN hi 2 (by decide) rfl
theorem m_put3 (hN : τ.2 M 0 = N) (hi : i < 8) {v : Int32} : f_X7_put (bz_wb τ N r) M (nI i) 3 v = some (0, bz_wb τ N (upd r (8 + 20 * i + 3) v)) := m_put hN hi 3 (by decide) rfl
theorem m_more3 (hN : τ.2 M 0 = N) (hi : i < 8) {v : Int32} : f_X7_more (bz_wb τ N r) M (nI i) 3 v = some (0, bz_wb τ N (upd r (8 + 20 * i + 3) (r (8 + 20 * i + 3) + v))) := m_more hN hi 3 (by decide) rfl
theorem m_put4 (hN : τ.2 M 0 = N) (hi : i < 8) {v : Int32} : f_X7_put (bz_wb τ N r) M (nI i) 4 v = some (0, bz_wb τ N (upd r (8 + 20 * i + 4) v)) := m_put hN hi 4 (by decide) rfl
theorem m_more4 (hN : τ.2 M 0 = N) (hi : i < 8) {v : Int32} : f_X7_more (bz_wb τ N r) M (nI i) 4 v = some (0, bz_wb τ N (upd r (8 + 20 * i + 4) (r (8 + 20 * i + 4) + v))) := m_more hN hi 4 (by decide) rfl
theorem m_put5 (hN : τ.2 M 0 = N) (hi : i < 8) {v : Int32} : f_X7_put (bz_wb τ N r) M (nI i) 5 v = some (0, bz_wb τ N (upd r (8 + 20 * i + 5) v)) := m_put hN hi 5 (by decide) rfl
theorem m_more5 (hN : τ.2 M 0 = N) (hi : i < 8) {v : Int32} : f_X7_more (bz_wb τ N r) M (nI i) 5 v = some (0, bz_wb τ N (upd r (8 + 20 * i + 5) (r (8 + 20 * i + 5) + v))) := m_more hN hi 5 (by decide) rfl
theorem m_put6 (hN : τ.2 M 0 = N) (hi : i < 8) {v : Int32} : f_X7_put (bz_wb τ N r) M (nI i) 6 v = some (0, bz_wb τ N (upd r (8 + 20 * i + 6) v)) := m_put hN hi 6 (by decide) rfl
theorem m_more6 (hN : τ.2 M 0 = N) (hi : i < 8) {v : Int32} : f_X7_more (bz_wb τ N r) M (nI i) 6 v = some (0, bz_wb τ N (upd r (8 + 20 * i + 6) (r (8 + 20 * i + 6) + v))) := m_more hN hi 6 (by decide) rfl
theorem m_put7 (hN : τ.2 M 0 = N) (hi : i < 8) {v : Int32} : f_X7_put (bz_wb τ N r) M (nI i) 7 v = some (0, bz_wb τ N (upd r (8 + 20 * i + 7) v)) := m_put hN hi 7 (by decide) rfl
theorem m_more7 (hN : τ.2 M 0 = N) (hi : i < 8) {v : Int32} : f_X7_more (bz_wb τ N r) M (nI i) 7 v = some (0, bz_wb τ N (upd r (8 + 20 * i + 7) (r (8 + 20 * i + 7) + v))) := m_more hN hi 7 (by decide) rfl
theorem m_put8 (hN : τ.2 M 0 = N) (hi : i < 8) {v : Int32} : f_X7_put (bz_wb τ N r) M (nI i) 8 v = some (0, bz_wb τ N (upd r (8 + 20 * i + 8) v)) := m_put hN hi 8 (by decide) rfl
theorem m_more8 (hN : τ.2 M 0 = N) (hi : i < 8) {v : Int32} : f_X7_more (bz_wb τ N r) M (nI i) 8 v = some (0, bz_wb τ N (upd r (8 + 20 * i + 8) (r (8 + 20 * i + 8) + v))) := m_more hN hi 8 (by decide) rfl
theorem m_put9 (hN : τ.2 M 0 = N) (hi : i < 8) {v : Int32} : f_X7_put (bz_wb τ N r) M (nI i) 9 v = some (0, bz_wb τ N (upd r (8 + 20 * i + 9) v)) := m_put hN hi 9 (by decide) rfl
theorem m_more9 (hN : τ.2 M 0 = N) (hi : i < 8) {v : Int32} : f_X7_more (bz_wb τ N r) M (nI i) 9 v = some (0, bz_wb τ N (upd r (8 + 20 * i + 9) (r (8 + 20 * i + 9) + v))) := m_more hN hi 9 (by decide) rfl
theorem m_put10 (hN : τ.2 M 0 = N) (hi : i < 8) {v : Int32} : f_X7_put (bz_wb τ N r) M (nI i) 10 v = some (0, bz_wb τ N (upd r (8 + 20 * i + 10) v)) := m_put hN hi 10 (by decide) rfl
theorem m_more10 (hN : τ.2 M 0 = N) (hi : i < 8) {v : Int32} : f_X7_more (bz_wb τ N r) M (nI i) 10 v = some (0, bz_wb τ N (upd r (8 + 20 * i + 10) (r (8 + 20 * i + 10) + v))) := m_more hN hi 10 (by decide) rfl
theorem m_put11 (hN : τ.2 M 0 = N) (hi : i < 8) {v : Int32} : f_X7_put (bz_wb τ N r) M (nI i) 11 v = some (0, bz_wb τ N (upd r (8 + 20 * i + 11) v)) := m_put hN hi 11 (by decide) rfl
theorem m_more11 (hN : τ.2 M 0 = N) (hi : i < 8) {v : Int32} : f_X7_more (bz_wb τ N r) M (nI i) 11 v = some (0, bz_wb τ N (upd r (8 + 20 * i + 11) (r (8 + 20 * i + 11) + v))) := m_more hN hi 11 (by decide) rfl
theorem m_put12 (hN : τ.2 M 0 = N) (hi : i < 8) {v : Int32} : f_X7_put (bz_wb τ N r) M (nI i) 12 v = some (0, bz_wb τ N (upd r (8 + 20 * i + 12) v)) := m_put hN hi 12 (by decide) rfl
theorem m_more12 (hN : τ.2 M 0 = N) (hi : i < 8) {v : Int32} : f_X7_more (bz_wb τ N r) M (nI i) 12 v = some (0, bz_wb τ N (upd r (8 + 20 * i + 12) (r (8 + 20 * i + 12) + v))) := m_more hN hi 12 (by decide) rfl
theorem m_put13 (hN : τ.2 M 0 = N) (hi : i < 8) {v : Int32} : f_X7_put (bz_wb τ N r) M (nI i) 13 v = some (0, bz_wb τ N (upd r (8 + 20 * i + 13) v)) := m_put hN hi 13 (by decide) rfl
theorem m_more13 (hN : τ.2 M 0 = N) (hi : i < 8) {v : Int32} : f_X7_more (bz_wb τ N r) M (nI i) 13 v = some (0, bz_wb τ N (upd r (8 + 20 * i + 13) (r (8 + 20 * i + 13) + v))) := m_more hN hi 13 (by decide) rfl
theorem m_put14 (hN : τ.2 M 0 = N) (hi : i < 8) {v : Int32} : f_X7_put (bz_wb τ N r) M (nI i) 14 v = some (0, bz_wb τ N (upd r (8 + 20 * i + 14) v)) := m_put hN hi 14 (by decide) rfl
theorem m_more14 (hN : τ.2 M 0 = N) (hi : i < 8) {v : Int32} : f_X7_more (bz_wb τ N r) M (nI i) 14 v = some (0, bz_wb τ N (upd r (8 + 20 * i + 14) (r (8 + 20 * i + 14) + v))) := m_more hN hi 14 (by decide) rfl
theorem m_put15 (hN : τ.2 M 0 = N) (hi : i < 8) {v : Int32} : f_X7_put (bz_wb τ N r) M (nI i) 15 v = some (0, bz_wb τ N (upd r (8 + 20 * i + 15) v)) := m_put hN hi 15 (by decide) rfl
theorem m_more15 (hN : τ.2 M 0 = N) (hi : i < 8) {v : Int32} : f_X7_more (bz_wb τ N r) M (nI i) 15 v = some (0, bz_wb τ N (upd r (8 + 20 * i + 15) (r (8 + 20 * i + 15) + v))) := m_more hN hi 15 (by decide) rfl
theorem m_put16 (hN : τ.2 M 0 = N) (hi : i < 8) {v : Int32} : f_X7_put (bz_wb τ N r) M (nI i) 16 v = some (0, bz_wb τ N (upd r (8 + 20 * i + 16) v)) := m_put hN hi 16 (by decide) rfl
theorem m_more16 (hN : τ.2 M 0 = N) (hi : i < 8) {v : Int32} : f_X7_more (bz_wb τ N r) M (nI i) 16 v = some (0, bz_wb τ N (upd r (8 + 20 * i + 16) (r (8 + 20 * i + 16) + v))) := m_more hN hi 16 (by decide) rfl
theorem m_put17 (hN : τ.2 M 0 = N) (hi : i < 8) {v : Int32} : f_X7_put (bz_wb τ N r) M (nI i) 17 v = some (0, bz_wb τ N (upd r (8 + 20 * i + 17) v)) := m_put hN hi 17 (by decide) rfl
theorem m_more17 (hN : τ.2 M 0 = N) (hi : i < 8) {v : Int32} : f_X7_more (bz_wb τ N r) M (nI i) 17 v = some (0, bz_wb τ N (upd r (8 + 20 * i + 17) (r (8 + 20 * i + 17) + v))) := m_more hN hi 17 (by decide) rfl
theorem m_put18 (hN : τ.2 M 0 = N) (hi : i < 8) {v : Int32} : f_X7_put (bz_wb τ N r) M (nI i) 18 v = some (0, bz_wb τ N (upd r (8 + 20 * i + 18) v)) := m_put hN hi 18 (by decide) rfl
theorem m_more18 (hN : τ.2 M 0 = N) (hi : i < 8) {v : Int32} : f_X7_more (bz_wb τ N r) M (nI i) 18 v = some (0, bz_wb τ N (upd r (8 + 20 * i + 18) (r (8 + 20 * i + 18) + v))) := m_more hN hi 18 (by decide) rfl
theorem m_in {τ : bz_W} (x lo hi : Int32) : f_X7_in τ x lo hi = some (if x < lo then 0 else if hi < x then 0 else 1, τ) := by
  unfold f_X7_in
  split
  · rfl
  · split <;> rfl
theorem m_noN {cnt : Nat} (hN : τ.2 M 0 = N) (hc : cnt ≤ 8) (h0 : r 0 = nI cnt) {x : Int32} (hx : x < 0 ∨ nI cnt ≤ x) : f_X7_noMotor (bz_wb τ N r) M x = some (1, bz_wb τ N r) := by
  unfold f_X7_noMotor
  rw [m_in, bd_s, wb_2, hN, wb_s, h0]
  by_cases h : x < 0
  · rw [if_pos h]; rfl
  · rw [if_neg h]
    have h2 : nI cnt ≤ x := by rcases hx with h' | h'; exact absurd h' h; exact h'
    have h3 : nI cnt - 1 < x := by
      rw [Int32.lt_iff_toInt_lt]
      have e1 : (nI cnt - nI 1).toInt = (cnt : Int) - (1 : Nat) := pk_sub_toInt (by omega) (by omega)
      have e2 : (nI cnt).toInt = cnt := nI_toInt (by omega)
      have e3 := Int32.le_iff_toInt_le.mp h2
      show (nI cnt - nI 1).toInt < _
      rw [e1]
      omega
    rw [if_pos h3]; rfl
theorem m_noY {cnt : Nat} (hN : τ.2 M 0 = N) (hc : cnt ≤ 8) (h0 : r 0 = nI cnt) (hi : i < cnt) : f_X7_noMotor (bz_wb τ N r) M (nI i) = some (0, bz_wb τ N r) := by
  unfold f_X7_noMotor
  rw [m_in, bd_s, wb_2, hN, wb_s, h0, if_neg (nI_pos (by omega))]
  have h3 : ¬ nI cnt - 1 < nI i := by
    obtain ⟨c, rfl⟩ : ∃ c, cnt = c + 1 := ⟨cnt - 1, by omega⟩
    rw [nI_pred]
    exact nI_nlt (by omega) (by omega)
  rw [if_neg h3]
  rfl
-- what is read off a row
def peakR (r : Nat → Int32) (i : Nat) : Int32 := r (8 + 20 * i) * r (8 + 20 * i + 2)
def rampR (most ramp second : Int32) : Int32 := (most * (second + 1) + ramp - 1) / ramp
def drawR (r : Nat → Int32) (i : Nat) : Int32 := if r (8 + 20 * i + 5) = 2 then rampR (peakR r i) (r (8 + 20 * i + 1)) (r (8 + 20 * i + 8)) else if r (8 + 20 * i + 5) = 3 then (if r (8 + 20 * i + 7) = 0 then r (8 + 20 * i) else r (8 + 20 * i) * 3 / 2) else 0
def hsum (most ramp : Int32) : Nat → Int32
  | 0 => 0
  | n + 1 => hsum most ramp n + rampR most ramp (nI n) * rampR most ramp (nI n) / 10
def credR (r : Nat → Int32) (i : Nat) : Int32 := r (8 + 20 * i + 3) - r (8 + 20 * i + 6)
def rateR (turning : Int32) (fan : Int32) : Int32 := (if turning = 0 then 20 else 40) + (if fan = 1 then 30 else 0)
def turnR (r : Nat → Int32) (i : Nat) : Int32 := if r (8 + 20 * i + 5) = 2 then 1 else if r (8 + 20 * i + 5) = 3 then 1 else 0
theorem m_peak (hN : τ.2 M 0 = N) (hi : i < 8) : f_X7_peak (bz_wb τ N r) M (nI i) = some (peakR r i, bz_wb τ N r) := by
  unfold f_X7_peak
  simp only [m_of0 hN hi, m_of2 hN hi, bd_s]
  rfl
theorem m_ramped {τ : bz_W} {a b c : Int32} (hb : ¬ b = 0) : f_X7_ramped τ a b c = some (rampR a b c, τ) := by
  unfold f_X7_ramped
  have : (!(b == 0)) = true := by simp [hb]
  rw [this]
  rfl
theorem m_draws (hN : τ.2 M 0 = N) (hi : i < 8) (hr : ¬ r (8 + 20 * i + 1) = 0) : f_X7_draws (bz_wb τ N r) M (nI i) = some (drawR r i, bz_wb τ N r) := by
  unfold f_X7_draws drawR
  simp only [m_of0 hN hi, m_of1 hN hi, m_of5 hN hi, m_of7 hN hi, m_of8 hN hi, m_peak hN hi, bd_s, m_ramped hr]
  split
  · rfl
  · split
    · split <;> rfl
    · rfl
theorem m_hsumL (hN : τ.2 M 0 = N) (hi : i < 8) {n : Nat} (hn : n < 2 ^ 30) (h0 : n ≠ 0) {k : Int32 → bz_W → Option (Int32 × bz_W)} : ∀ fuel j, j ≤ n → n - j < fuel → f_X7_heatOfRamp_L5 M (nI i) (nI n) k fuel (hsum (peakR r i) (nI n) j) (nI j) (bz_wb τ N r) = k (hsum (peakR r i) (nI n) n) (bz_wb τ N r) := by
  intro fuel
  induction fuel with
  | zero => intro j hj h; omega
  | succ f ih =>
    intro j hj h
    rw [f_X7_heatOfRamp_L5]
    by_cases hjn : j = n
    · subst hjn
      rw [if_pos (nI_le (Nat.le_refl _) (by omega))]
    · rw [if_neg (nI_ge (by omega) (by omega))]
      have hne : ¬ nI n = 0 := nI_ne0 (by omega) (by omega)
      simp only [m_peak hN hi, bd_s, m_ramped hne, lt_d, nI_1]
      exact ih (j + 1) (by omega) (by omega)
theorem m_heatOfRamp (hN : τ.2 M 0 = N) (hi : i < 8) {n : Nat} (hn : n < 1000) (h0 : n ≠ 0) : f_X7_heatOfRamp (bz_wb τ N r) M (nI i) (nI n) = some (hsum (peakR r i) (nI n) n, bz_wb τ N r) := by
  unfold f_X7_heatOfRamp
  exact m_hsumL hN hi (by omega) h0 1100 0 (Nat.zero_le _) (by omega)
theorem m_needed (hN : τ.2 M 0 = N) (hi : i < 8) {n : Nat} (hn : n < 1000) (h0 : n ≠ 0) (hr : r (8 + 20 * i + 1) = nI n) : f_X7_needed (bz_wb τ N r) M (nI i) = some (hsum (peakR r i) (nI n) n, bz_wb τ N r) := by
  unfold f_X7_needed
  simp only [m_of1 hN hi, bd_s, hr, m_heatOfRamp hN hi hn h0]
theorem m_credit (hN : τ.2 M 0 = N) (hi : i < 8) : f_X7_credit (bz_wb τ N r) M (nI i) = some (credR r i, bz_wb τ N r) := by
  unfold f_X7_credit
  simp only [m_of3 hN hi, m_of6 hN hi, bd_s]
  rfl
theorem m_rate (hN : τ.2 M 0 = N) (x : Int32) : f_X7_rate (bz_wb τ N r) M x = some (rateR x (r 3), bz_wb τ N r) := by
  unfold f_X7_rate rateR
  simp only [lt_d, wb_2, hN, wb_s]
  split <;> split <;> rfl
theorem m_turns (hN : τ.2 M 0 = N) (hi : i < 8) : f_X7_turns (bz_wb τ N r) M (nI i) = some (turnR r i, bz_wb τ N r) := by
  unfold f_X7_turns turnR
  simp only [m_of5 hN hi, bd_s]
  split
  · rfl
  · split <;> rfl
theorem m_waits (hN : τ.2 M 0 = N) (hi : i < 8) : f_X7_waits (bz_wb τ N r) M (nI i) = some (if r (8 + 20 * i + 5) = 1 then 1 else 0, bz_wb τ N r) := by
  unfold f_X7_waits
  simp only [m_of5 hN hi, bd_s]
  split <;> rfl
theorem m_waited (hN : τ.2 M 0 = N) (hi : i < 8) : f_X7_waitedOf (bz_wb τ N r) M (nI i) = some (r 1 - r (8 + 20 * i + 9), bz_wb τ N r) := by
  unfold f_X7_waitedOf
  simp only [m_of9 hN hi, bd_s, wb_2, hN, wb_s]
theorem m_refuse (τ : bz_W) (M : Nat) (x : Int32) : f_X7_refuse τ M x = some (-3, bz_wi τ M 5 x) := rfl
end MOD
